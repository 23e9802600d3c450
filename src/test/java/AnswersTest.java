/** Promises 13 and 14: an answer's text and its conditions. */
public final class AnswersTest {
    private AnswersTest() {
    }

    private static int all(RelationStream x, int... goals) {
        int goal = goals[goals.length - 1];
        for (int i = goals.length - 2; i >= 0; i--) {
            goal = x.combine(true, goals[i], goal);
        }
        return goal;
    }

    private static void askAndRun(RelationStream x, int goal) {
        x.ask(goal);
        x.run(200, false);
    }

    private static void texts() {
        RelationStream x = Check.withPlacesAndAtoms();
        int nested = x.pair(x.pair(1, 8), x.pair(2, 1));
        askAndRun(x, x.relate(true, 0, nested));
        Check.text(x, 0, 0, 10, 10, 20, 2, 10, 21, 20);
        Check.due("no conditions", x.conditions(0), 0);
        for (int part = 1; part <= 6; part++) {
            Check.text(x, 0, part);
        }
        Check.due("number -1", x.text(0, 0, -1), -1);
        Check.due("the least number", x.text(0, 0, Integer.MIN_VALUE), -1);
        Check.due("the greatest number", x.text(0, 6, Integer.MAX_VALUE), -1);
        Check.refused("part 7", Check.INDEX, () -> x.text(0, 7, 0));
        Check.refused("part -1", Check.INDEX, () -> x.text(0, -1, 0));
        Check.refused("answer 1", Check.INDEX, () -> x.text(1, 0, 0));
        Check.refused("answer -1", Check.INDEX, () -> x.text(-1, 0, 0));
        Check.refused("conditions of answer 1", Check.INDEX, () -> x.conditions(1));
        Check.refused("conditions of answer -1", Check.INDEX, () -> x.conditions(-1));
        askAndRun(x, all(x, x.relate(true, 1, 2), x.relate(true, 0, x.pair(2, 1))));
        Check.text(x, 0, 0, 10, 20, 20);
    }

    /** Variable 0 has a number even if there is no term for it. */
    private static void withoutPlaceZero() {
        RelationStream x = new RelationStream();
        x.place(1);
        x.atom(1);
        askAndRun(x, x.relate(false, 0, 1));
        Check.text(x, 0, 0, 20);
        Check.text(x, 0, 1, 21);
        Check.text(x, 0, 2, 1);
        RelationStream y = new RelationStream();
        y.atom(3);
        askAndRun(y, y.relate(true, 0, 0));
        Check.text(y, 0, 0, 20);
        y.place(0);
        Check.text(y, 0, 0, 20);
    }

    /** It is the question's variable 0, not that of a frame that a call made. */
    private static void questionsVariable() {
        RelationStream x = Check.withPlacesAndAtoms();
        x.define(0, x.relate(true, 0, 8));
        askAndRun(x, x.call(0, 1, 1, 1));
        Check.text(x, 0, 0, 20);
        askAndRun(x, x.call(0, 0, 1, 1));
        Check.text(x, 0, 0, 2);
    }

    private static void conditionTexts() {
        RelationStream x = Check.withPlacesAndAtoms();
        int first = x.relate(false, 1, 7);
        int second = x.relate(false, x.pair(2, 1), x.pair(8, 0));
        int third = x.relate(false, 3, 2);
        int fourth = x.relate(false, 4, 9);
        askAndRun(x, all(x, first, second, third, fourth));
        Check.due("four conditions", x.conditions(0), 4);
        Check.text(x, 0, 0, 20);
        Check.text(x, 0, 1, 21);
        Check.text(x, 0, 2, 1);
        Check.text(x, 0, 3, 10, 22, 21);
        Check.text(x, 0, 4, 10, 2, 20);
        Check.text(x, 0, 5, 23);
        Check.text(x, 0, 6, 22);
        Check.refused("the fourth is not told", Check.INDEX, () -> x.text(0, 7, 0));
        askAndRun(x, all(x, first, second, third, fourth, x.relate(true, 1, 8)));
        Check.due("one is decided", x.conditions(0), 3);
        Check.text(x, 0, 1, 10, 21, 2);
        Check.text(x, 0, 2, 10, 2, 20);
        Check.text(x, 0, 3, 22);
        Check.text(x, 0, 4, 21);
        Check.text(x, 0, 5, 23);
        Check.text(x, 0, 6, 3);
        askAndRun(x, all(x, first, second, third, fourth, x.relate(true, 1, 8), x.relate(true, 3, 9),
                x.relate(true, 2, 7)));
        Check.due("all but the last are decided", x.conditions(0), 1);
        Check.text(x, 0, 0, 20);
        Check.text(x, 0, 1, 21);
        Check.text(x, 0, 2, 3);
        Check.text(x, 0, 3);
    }

    /** An answer keeps its own bindings and conditions, whatever the others come to. */
    private static void answersApart() {
        RelationStream x = Check.withPlacesAndAtoms();
        int apart = x.relate(false, 0, 7);
        int other = x.relate(false, 0, 8);
        int sides = x.combine(false, x.combine(true, other, x.relate(true, 1, 7)), x.relate(true, 0, 9));
        askAndRun(x, x.combine(true, apart, sides));
        Check.due("two answers", x.count(0), 2);
        Check.due("the first has no condition", x.conditions(0), 0);
        Check.text(x, 0, 0, 3);
        Check.text(x, 0, 1);
        Check.due("the second has two", x.conditions(1), 2);
        Check.text(x, 1, 0, 20);
        Check.text(x, 1, 1, 20);
        Check.text(x, 1, 2, 1);
        Check.text(x, 1, 3, 20);
        Check.text(x, 1, 4, 2);
    }

    private static void longTexts() {
        RelationStream x = Check.withPlacesAndAtoms();
        int row = x.pair(1, 7);
        int made = 1;
        while (made < 19) {
            row = x.pair(7, row);
            made++;
        }
        x.ask(x.relate(true, 0, row));
        x.run(1, false);
        Check.due("39 numbers: the last", x.text(0, 0, 38), 1);
        Check.due("39 numbers: the variable", x.text(0, 0, 37), 20);
        Check.due("39 numbers: no more", x.text(0, 0, 39), -1);
        int longer = x.pair(7, row);
        int apart = x.relate(false, 2, x.pair(1, 7));
        askAndRun(x, all(x, x.relate(true, 0, longer), apart));
        Check.due("40 of 41 numbers: the variable", x.text(0, 0, 39), 20);
        Check.due("40 of 41 numbers: no more", x.text(0, 0, 40), -1);
        Check.text(x, 0, 1, 21);
        Check.text(x, 0, 2, 10, 20, 1);
        int longest = x.pair(7, longer);
        askAndRun(x, all(x, x.relate(true, 0, longest), apart));
        Check.due("40 of 43 numbers: a pair", x.text(0, 0, 38), 10);
        Check.due("40 of 43 numbers: the last", x.text(0, 0, 39), 1);
        Check.due("40 of 43 numbers: no more", x.text(0, 0, 40), -1);
        Check.text(x, 0, 1, 20);
        Check.text(x, 0, 2, 10, 21, 1);
        askAndRun(x, all(x, x.relate(false, longest, 3), apart));
        Check.due("a condition's text is cut too", x.text(0, 1, 39), 1);
        Check.due("a condition's text is cut too: no more", x.text(0, 1, 40), -1);
        Check.text(x, 0, 2, 21);
        Check.text(x, 0, 3, 22);
        Check.text(x, 0, 4, 10, 23, 1);
    }

    public static void main(String[] args) {
        texts();
        withoutPlaceZero();
        questionsVariable();
        conditionTexts();
        answersApart();
        longTexts();
        Check.end();
    }
}
