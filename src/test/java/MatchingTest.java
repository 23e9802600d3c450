/** The section Terms: what a term is, matching, and conditions: where each holds for the last time and fails first. */
public final class MatchingTest {
    private MatchingTest() {
    }

    /** SAME of two terms is asked: one step, with so many answers (0 or 1) and bindings. */
    private static void same(String what, RelationStream x, int one, int other, int answers, int bindings) {
        Check.due(what + ": steps", Check.askAndRun(x, x.relate(true, one, other)), 1);
        Check.due(what + ": status", x.status(), 2);
        Check.counts(what, x, answers, 0, 0, 0, 1, bindings, 0, 1);
    }

    /** DIFFER of two terms is asked: one step, with so many answers, bindings and conditions. */
    private static void differ(String what, RelationStream x, int one, int other, int... counts) {
        Check.due(what + ": steps", Check.askAndRun(x, x.relate(false, one, other)), 1);
        Check.due(what + ": status", x.status(), 2);
        Check.counts(what, x, counts[0], 0, 0, 0, 1, counts[1], counts[2], 1);
        if (counts[0] == 1) {
            Check.due(what + ": of the answer", x.conditions(0), counts[2]);
        }
    }

    private static void whatATermIs() {
        Check.about("a bound variable is what it is bound to, and so on, till there is an atom, a pair or a variable "
                + "that is not bound");
        RelationStream x = Check.withPlacesAndAtoms();
        int chain = Check.all(x, x.relate(true, 0, 1), x.relate(true, 1, 2), x.relate(true, 2, 3),
                x.relate(true, 3, 4), x.relate(true, 4, 5));
        Check.askAndRun(x, chain);
        Check.text(x, 0, 0, 20);
        Check.due("a variable is bound to the next one", x.count(5), 5);
        Check.askAndRun(x, x.combine(true, chain, x.relate(true, 5, 9)));
        Check.text(x, 0, 0, 3);
        Check.askAndRun(x, x.combine(true, chain, x.relate(true, 3, x.pair(7, 8))));
        Check.text(x, 0, 0, 10, 1, 2);
        Check.askAndRun(x, Check.all(x, chain, x.relate(true, 5, 9), x.relate(true, 0, 9)));
        Check.counts("it is that atom for SAME too", x, 1, 0, 0, 0, 1, 6);
        Check.askAndRun(x, Check.all(x, chain, x.relate(true, 5, 9), x.relate(true, 0, 8)));
        Check.counts("and no other one", x, 0, 0, 0, 0, 1, 6);
    }

    private static void throughAllFrames() {
        Check.about("a place is its variable; a bound variable is what it is bound to, and so on");
        RelationStream x = Check.withPlacesAndAtoms();
        int again = x.call(0, 0, 6, 6);
        x.define(0, again);
        x.ask(again);
        x.run(38, false);
        x.define(0, x.relate(true, 0, 9));
        Check.due("a variable of frame 40 is the question's", x.run(200, false), 2);
        Check.counts("40 frames", x, 1, 0, 0, 0, 40, 118, 0, 40);
        Check.text(x, 0, 0, 3);
    }

    private static void pairsOfOtherFrames() {
        Check.about("A STATE has BINDINGS of variables to terms (with the frame of these)");
        RelationStream x = Check.withPlacesAndAtoms();
        int pair = x.pair(4, 3);
        int whole = x.relate(true, 0, pair);
        int call = x.call(0, pair, 6, 6);
        x.define(0, x.relate(true, 0, x.pair(3, 4)));
        Check.askAndRun(x, x.combine(true, whole, call));
        Check.counts("each half is bound to a variable of the other frame", x, 1, 0, 0, 0, 2, 6);
        Check.text(x, 0, 0, 10, 20, 21);
        x.define(0, x.relate(true, x.pair(3, 8), 0));
        Check.askAndRun(x, x.combine(true, whole, call));
        Check.text(x, 0, 0, 10, 20, 2);
        x.define(0, x.relate(false, 0, x.pair(3, 8)));
        Check.askAndRun(x, x.combine(true, whole, call));
        Check.text(x, 0, 0, 10, 20, 21);
        Check.text(x, 0, 1, 10, 20, 21);
        Check.text(x, 0, 2, 10, 22, 2);
    }

    private static void sameVariableOrEqualAtoms() {
        Check.about("if they are the same variable or equal atoms, nothing");
        RelationStream x = Check.withPlacesAndAtoms();
        int again = x.place(1);
        int equal = x.atom(2);
        same("a place and itself", x, 0, 0, 1, 0);
        same("two terms that are one place", x, 1, again, 1, 0);
        same("two places", x, 1, 2, 1, 1);
        same("an atom and itself", x, 6, 6, 1, 0);
        same("two terms that are one atom", x, 8, equal, 1, 0);
        same("two atoms", x, 7, equal, 0, 0);
        int joined = x.relate(true, 1, 2);
        Check.askAndRun(x, Check.all(x, joined, joined, x.relate(true, 2, 1)));
        Check.counts("places that are one variable since", x, 1, 0, 0, 0, 1, 1);
        int pair = x.pair(1, 8);
        same("pairs of the same variable and equal atoms", x, pair, x.pair(again, equal), 1, 0);
    }

    private static void unequalAtoms() {
        Check.about("equal atoms");
        RelationStream x = new RelationStream();
        for (int a = 0; a <= 9; a++) {
            x.atom(a);
        }
        for (int a = 0; a < 9; a++) {
            same("atoms " + a + " and " + a, x, a, a, 1, 0);
            same("atoms " + a + " and " + (a + 1), x, a, a + 1, 0, 0);
        }
    }

    private static void firstOrSecond() {
        Check.about("if the first is a variable that is not bound, else if the second is one");
        RelationStream x = Check.withPlacesAndAtoms();
        int pair = x.pair(1, 9);
        same("a variable and an atom", x, 0, 9, 1, 1);
        Check.text(x, 0, 0, 3);
        same("an atom and a variable", x, 9, 0, 1, 1);
        Check.text(x, 0, 0, 3);
        same("a variable and a pair", x, 0, pair, 1, 1);
        Check.text(x, 0, 0, 10, 20, 3);
        same("a pair and a variable", x, pair, 0, 1, 1);
        Check.text(x, 0, 0, 10, 20, 3);
        same("two variables", x, 0, 1, 1, 1);
        Check.text(x, 0, 0, 20);
        same("an atom and the place of its number", x, 7, 1, 1, 1);
        same("a place and the atom of its number", x, 1, 7, 1, 1);
        RelationStream y = new RelationStream();
        y.place(1);
        y.place(0);
        y.pair(0, 0);
        same("a pair of term 0, and place 0", y, 2, 1, 1, 1);
        same("place 0, and a pair of term 0", y, 1, 2, 1, 1);
    }

    private static void mustNotOccur() {
        Check.about("it must not OCCUR in the other one");
        RelationStream x = Check.withPlacesAndAtoms();
        int others = x.pair(1, x.pair(2, 7));
        int first = x.pair(0, 1);
        int second = x.pair(1, 0);
        int deep = x.pair(7, x.pair(8, x.pair(9, 0)));
        same("a pair of others", x, 0, others, 1, 1);
        same("it is the first half", x, 0, first, 0, 0);
        same("it is the second half", x, 0, second, 0, 0);
        same("it is deep inside", x, 0, deep, 0, 0);
        same("and on the other side", x, deep, 0, 0, 0);
        Check.askAndRun(x, Check.all(x, x.relate(true, 1, 2), x.relate(true, 2, x.pair(3, 1))));
        Check.counts("it is what another one is bound to", x, 0, 0, 0, 0, 1, 1, 0, 3);
        Check.askAndRun(x, Check.all(x, x.relate(true, 1, x.pair(3, 4)), x.relate(true, 4, x.pair(7, 1))));
        Check.counts("it is inside of what another one is bound to", x, 0, 0, 0, 0, 1, 1, 0, 3);
        Check.askAndRun(x, Check.all(x, x.relate(true, 1, x.pair(3, 4)), x.relate(true, 5, x.pair(7, 1))));
        Check.counts("it is not inside", x, 1, 0, 0, 0, 1, 2, 0, 3);
        same("by a binding of the same matching", x, x.pair(0, 1), x.pair(x.pair(1, 7), x.pair(0, 7)), 0, 1);
    }

    private static void halves() {
        Check.about("if both are pairs: first halves are matched, then second halves");
        RelationStream x = Check.withPlacesAndAtoms();
        same("both halves match", x, x.pair(0, 1), x.pair(8, 9), 1, 2);
        Check.text(x, 0, 0, 2);
        same("the second halves fail, behind the first", x, x.pair(0, 8), x.pair(7, 9), 0, 1);
        same("the first halves fail, before the second", x, x.pair(8, 0), x.pair(9, 7), 0, 0);
        same("the innermost first half fails, before all others", x, x.pair(x.pair(8, 0), 1),
                x.pair(x.pair(9, 7), 7), 0, 0);
        same("the innermost second half fails, before the outer one", x, x.pair(x.pair(0, 8), 1),
                x.pair(x.pair(7, 9), 7), 0, 1);
    }

    private static void elseItFails() {
        Check.about("else it FAILS");
        RelationStream x = Check.withPlacesAndAtoms();
        int pair = x.pair(7, 7);
        same("an atom and a pair", x, 7, pair, 0, 0);
        same("a pair and an atom", x, pair, 7, 0, 0);
        same("two pairs", x, pair, x.pair(7, 7), 1, 0);
        same("pairs of other atoms", x, pair, x.pair(7, 8), 0, 0);
        same("a pair and a longer one", x, pair, x.pair(7, pair), 0, 0);
        // The number of a half or of an atom must not be taken for that of the other.
        same("a pair of terms 3 and 3, and atom 3", x, x.pair(3, 3), 9, 0, 0);
    }

    private static void bindingsOfTheSameMatching() {
        Check.about("Bindings that were made before in the same matching count, of course");
        RelationStream x = Check.withPlacesAndAtoms();
        int twice = x.pair(0, 0);
        same("twice the same", x, twice, x.pair(8, 8), 1, 1);
        Check.text(x, 0, 0, 2);
        same("not the same", x, twice, x.pair(8, 9), 0, 1);
        same("two variables become one", x, twice, x.pair(1, 2), 1, 2);
        same("by way of another variable", x, x.pair(twice, 1), x.pair(x.pair(1, 8), 9), 0, 2);
    }

    private static void whatFailsHasNone() {
        Check.about("what fails has none of them");
        RelationStream x = Check.withPlacesAndAtoms();
        int tried = x.pair(0, 7);
        int other = x.pair(8, 9);
        differ("DIFFER of what fails late", x, tried, other, 1, 1, 0);
        Check.text(x, 0, 0, 20);
        int late = x.relate(false, x.pair(0, 1), x.pair(8, 9));
        Check.askAndRun(x, Check.all(x, late, x.relate(true, 1, 7)));
        Check.counts("a condition that fails late in SAME", x, 1, 0, 0, 0, 1, 4, 1);
        Check.due("it is decided", x.conditions(0), 0);
        Check.text(x, 0, 0, 20);
        Check.askAndRun(x, Check.all(x, late, x.relate(true, 1, 7), x.relate(true, 0, 9)));
        Check.text(x, 0, 0, 3);
        Check.askAndRun(x, x.combine(false, x.relate(true, tried, other), x.relate(true, 0, 9)));
        Check.counts("the other side of a choice", x, 1, 0, 0, 0, 1, 2);
        Check.text(x, 0, 0, 3);
    }

    private static void whatIsTriedIsGone() {
        Check.about("those that are made by matching that fails or is only tried");
        RelationStream x = Check.withPlacesAndAtoms();
        differ("DIFFER of what could be the same", x, x.pair(0, 1), x.pair(8, 9), 1, 2, 1);
        Check.text(x, 0, 0, 20);
        Check.text(x, 0, 1, 10, 20, 21);
        int apart = x.relate(false, 0, 8);
        Check.askAndRun(x, Check.all(x, apart, x.relate(true, 1, 7), x.relate(true, 0, 9)));
        Check.text(x, 0, 0, 3);
        Check.counts("one tried by DIFFER, one by the first SAME", x, 1, 0, 0, 0, 1, 4, 1);
    }

    private static void nothingIsLeftIfSameFails() {
        Check.about("SAME: the terms are matched; if that fails, or a condition is BROKEN then (all are looked at in order, "
                + "till one is): nothing is left");
        RelationStream x = Check.withPlacesAndAtoms();
        same("it fails", x, 6, 7, 0, 0);
        int apart = x.relate(false, 0, 7);
        Check.due("it breaks a condition", Check.askAndRun(x, Check.all(x, apart, x.relate(true, 0, 7))), 3);
        Check.counts("it breaks a condition", x, 0, 0, 0, 0, 1, 2, 1, 3);
        Check.due("it breaks none", Check.askAndRun(x, Check.all(x, apart, x.relate(true, 0, 8))), 3);
        Check.counts("it breaks none", x, 1, 0, 0, 0, 1, 2, 1, 3);
        Check.askAndRun(x, Check.all(x, x.relate(false, 0, 1), x.relate(true, 1, 0)));
        Check.counts("it makes two variables one that must differ", x, 0, 0, 0, 0, 1, 2, 1, 3);
        Check.askAndRun(x, Check.all(x, apart, x.relate(true, x.pair(0, 6), x.pair(7, 7))));
        Check.counts("what fails looks at no condition", x, 0, 0, 0, 0, 1, 2, 1, 3);
    }

    private static void inOrderTillOneIsBroken() {
        Check.about("(all are looked at in order, till one is)");
        RelationStream x = Check.withPlacesAndAtoms();
        int three = Check.all(x, x.relate(false, 0, 7), x.relate(false, 1, 7), x.relate(false, 2, 7));
        int[] tried = {4, 5, 6};
        for (int k = 0; k < 3; k++) {
            Check.askAndRun(x, x.combine(true, three, x.relate(true, k, 7)));
            Check.counts("condition " + k + " is broken: those before it are tried", x, 0, 0, 0, 0, 1, tried[k], 3);
        }
        Check.askAndRun(x, x.combine(true, three, x.relate(true, 3, 7)));
        Check.counts("none is broken: all are tried", x, 1, 0, 0, 0, 1, 7, 3);
    }

    private static void withoutThoseDecided() {
        Check.about("without the conditions that are decided");
        RelationStream x = Check.withPlacesAndAtoms();
        int three = Check.all(x, x.relate(false, 1, 7), x.relate(false, 2, 7), x.relate(false, 3, 7));
        Check.askAndRun(x, x.combine(true, three, x.relate(true, 4, 8)));
        Check.due("none is decided", x.conditions(0), 3);
        Check.askAndRun(x, x.combine(true, three, x.relate(true, 2, 8)));
        Check.due("the second is decided", x.conditions(0), 2);
        Check.text(x, 0, 1, 21);
        Check.text(x, 0, 3, 22);
        Check.text(x, 0, 5);
        int all = x.relate(true, x.pair(1, x.pair(2, 3)), x.pair(8, x.pair(8, 8)));
        Check.askAndRun(x, x.combine(true, three, all));
        Check.due("all are decided", x.conditions(0), 0);
        Check.due("they were three all the same", x.count(6), 3);
        int late = x.relate(false, x.pair(4, 1), x.pair(7, 7));
        Check.askAndRun(x, Check.all(x, late, x.relate(true, 1, 8), x.relate(true, 5, 8)));
        Check.counts("a decided one is not tried again", x, 1, 0, 0, 0, 1, 5, 1);
    }

    private static void brokenOrNot() {
        Check.about("A condition is broken if matching its two terms does not fail and would bind nothing; "
                + "it is DECIDED if that fails.");
        RelationStream x = Check.withPlacesAndAtoms();
        int apart = x.relate(false, x.pair(0, 1), x.pair(7, 8));
        int half = x.combine(true, apart, x.relate(true, 0, 7));
        Check.askAndRun(x, half);
        Check.due("one binding is needed yet", x.conditions(0), 1);
        Check.askAndRun(x, x.combine(true, half, x.relate(true, 1, 8)));
        Check.due("none is needed: broken", x.count(0), 0);
        Check.askAndRun(x, x.combine(true, half, x.relate(true, 1, 9)));
        Check.due("it fails: decided", x.conditions(0), 0);
        Check.askAndRun(x, x.combine(true, half, x.relate(true, 1, 2)));
        Check.due("a variable for another: neither", x.conditions(0), 1);
        int occurs = x.combine(true, x.relate(false, 0, 1), x.relate(true, 1, x.pair(0, 7)));
        Check.askAndRun(x, occurs);
        Check.due("it fails as the one occurs in the other: decided", x.conditions(0), 0);
    }

    private static void differs() {
        Check.about("DIFFER: if the terms, as a condition, would be broken, nothing is left; else the answer is the "
                + "state, with that condition more unless it is decided; nothing is left");
        RelationStream x = Check.withPlacesAndAtoms();
        differ("equal atoms: broken", x, 7, 7, 0, 0, 0);
        differ("other atoms: decided", x, 7, 8, 1, 0, 0);
        differ("the same variable: broken", x, 0, 0, 0, 0, 0);
        differ("two variables: a condition", x, 0, 1, 1, 1, 1);
        differ("a variable and an atom: a condition", x, 0, 7, 1, 1, 1);
        differ("a variable in the other: decided", x, 0, x.pair(1, 0), 1, 0, 0);
        differ("equal pairs: broken", x, x.pair(0, 7), x.pair(0, 7), 0, 0, 0);
        differ("pairs with an equal half: a condition", x, x.pair(0, 7), x.pair(1, 7), 1, 1, 1);
        differ("pairs with other halves: decided", x, x.pair(0, 7), x.pair(0, 8), 1, 0, 0);
        int apart = x.relate(false, 0, 7);
        int bound = x.relate(true, 0, 7);
        Check.askAndRun(x, x.combine(true, bound, apart));
        Check.counts("broken by a binding", x, 0, 0, 0, 0, 1, 1, 0, 3);
        Check.askAndRun(x, x.combine(true, x.relate(true, 0, 8), apart));
        Check.counts("decided by a binding", x, 1, 0, 0, 0, 1, 1, 0, 3);
    }

    private static void differLeavesTheOthers() {
        Check.about("the answer is the state, with that condition more");
        RelationStream x = Check.withPlacesAndAtoms();
        int apart = x.relate(false, 0, 7);
        Check.askAndRun(x, x.combine(true, apart, x.relate(false, 1, 7)));
        Check.counts("the condition before is not looked at", x, 1, 0, 0, 0, 1, 2, 2, 3);
        Check.askAndRun(x, x.combine(true, apart, apart));
        Check.counts("it may be there twice", x, 1, 0, 0, 0, 1, 2, 2, 3);
        Check.due("it is there twice", x.conditions(0), 2);
        Check.askAndRun(x, x.combine(true, apart, x.relate(false, 7, 8)));
        Check.counts("one that is decided", x, 1, 0, 0, 0, 1, 1, 1, 3);
        Check.due("the one before is left", x.conditions(0), 1);
    }

    public static void main(String[] args) {
        whatATermIs();
        throughAllFrames();
        pairsOfOtherFrames();
        sameVariableOrEqualAtoms();
        unequalAtoms();
        firstOrSecond();
        mustNotOccur();
        halves();
        elseItFails();
        bindingsOfTheSameMatching();
        whatFailsHasNone();
        whatIsTriedIsGone();
        nothingIsLeftIfSameFails();
        inOrderTillOneIsBroken();
        withoutThoseDecided();
        brokenOrNot();
        differs();
        differLeavesTheOthers();
        Check.end();
    }
}
