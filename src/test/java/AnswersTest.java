/** Promises 13 and 14: an answer's text and its conditions, what is cut off and what is refused. */
public final class AnswersTest {
    private static final int LEAST = Integer.MIN_VALUE;
    private static final int GREATEST = Integer.MAX_VALUE;

    private AnswersTest() {
    }

    private static void numbers() {
        Check.about("an atom its number, a pair 10 and then both halves, a variable 20 for the first one that is met, "
                + "21 for the next one, and so on");
        RelationStream x = Check.withPlacesAndAtoms();
        Check.askAndRun(x, x.relate(true, 0, 6));
        Check.text(x, 0, 0, 0);
        Check.askAndRun(x, x.relate(true, 0, x.atom(9)));
        Check.text(x, 0, 0, 9);
        Check.askAndRun(x, x.relate(true, 1, 6));
        Check.text(x, 0, 0, 20);
        Check.askAndRun(x, x.relate(true, 0, x.pair(x.pair(1, 8), x.pair(2, 1))));
        Check.text(x, 0, 0, 10, 10, 20, 2, 10, 21, 20);
        Check.askAndRun(x, Check.all(x, x.relate(true, 1, 2), x.relate(true, 0, x.pair(2, 1))));
        Check.text(x, 0, 0, 10, 20, 20);
    }

    /** A row of as many pairs as are wanted, of a new variable each and the rest, which is a variable at last. */
    private static void manyVariables(int pairs) {
        Check.about("a variable 20 for the first one that is met, 21 for the next one, and so on");
        RelationStream x = Check.withPlacesAndAtoms();
        int longer = x.combine(true, x.relate(true, 0, x.pair(3, 4)), x.call(0, 4, 6, 6));
        int end = x.relate(true, 6, 6);
        x.define(0, longer);
        x.ask(Check.all(x, x.relate(false, 1, 2), x.relate(false, 5, 7), longer));
        x.run(4 + 3 * (pairs - 1), false);
        x.define(0, end);
        x.run(200, false);
        Check.due("an answer", x.count(0), 1);
        for (int i = 0; i < 19; i++) {
            Check.due("a pair", x.text(0, 0, 2 * i), 10);
            Check.due("a variable", x.text(0, 0, 2 * i + 1), 20 + i);
        }
        Check.due("the last one or a pair", x.text(0, 0, 38), pairs == 19 ? 39 : 10);
        Check.due("nothing or the last one", x.text(0, 0, 39), pairs == 19 ? -1 : 39);
        Check.due("nothing", x.text(0, 0, 40), -1);
        Check.text(x, 0, 1, 40);
        Check.text(x, 0, 2, 41);
        Check.text(x, 0, 3, 42);
        Check.text(x, 0, 4, 1);
    }

    private static void questionsVariable() {
        Check.about("AN ANSWER'S TEXT says what variable 0 of the question is");
        RelationStream x = Check.withPlacesAndAtoms();
        x.define(0, x.relate(true, 0, 8));
        Check.askAndRun(x, x.call(0, 1, 1, 1));
        Check.text(x, 0, 0, 20);
        Check.askAndRun(x, x.call(0, 0, 1, 1));
        Check.text(x, 0, 0, 2);
        RelationStream y = new RelationStream();
        y.place(1);
        y.atom(1);
        Check.askAndRun(y, y.relate(false, 0, 1));
        Check.text(y, 0, 0, 20);
        Check.text(y, 0, 1, 21);
        Check.text(y, 0, 2, 1);
        y.place(0);
        Check.text(y, 0, 0, 20);
    }

    private static void conditionTexts() {
        Check.about("Then, likewise (with the numbers of variables going on), come its conditions, each with its two "
                + "terms");
        RelationStream x = Check.withPlacesAndAtoms();
        int first = x.relate(false, 1, 7);
        int second = x.relate(false, x.pair(2, 1), x.pair(8, 0));
        int third = x.relate(false, 3, 2);
        int three = Check.all(x, first, second, third);
        Check.askAndRun(x, three);
        Check.text(x, 0, 0, 20);
        Check.text(x, 0, 1, 21);
        Check.text(x, 0, 2, 1);
        Check.text(x, 0, 3, 10, 22, 21);
        Check.text(x, 0, 4, 10, 2, 20);
        Check.text(x, 0, 5, 23);
        Check.text(x, 0, 6, 22);
        Check.askAndRun(x, Check.all(x, three, x.relate(true, 0, x.pair(3, 2))));
        Check.text(x, 0, 0, 10, 20, 21);
        Check.text(x, 0, 1, 22);
        Check.text(x, 0, 3, 10, 21, 22);
        Check.text(x, 0, 4, 10, 2, 10, 20, 21);
        Check.text(x, 0, 5, 20);
        Check.text(x, 0, 6, 21);
    }

    private static void firstThree() {
        Check.about("the first 3 are told");
        RelationStream x = Check.withPlacesAndAtoms();
        int goal = x.relate(true, 6, 6);
        for (int n = 0; n <= 5; n++) {
            Check.askAndRun(x, goal);
            Check.due("conditions", x.conditions(0), n);
            for (int c = 1; c <= 3; c++) {
                if (c <= n) {
                    Check.text(x, 0, 2 * c - 1, 20 + c);
                    Check.text(x, 0, 2 * c, 3);
                } else {
                    Check.text(x, 0, 2 * c - 1);
                    Check.text(x, 0, 2 * c);
                }
            }
            Check.refused("text(0, 7, 0)", Check.INDEX, () -> x.text(0, 7, 0));
            goal = n < 5 ? x.combine(true, goal, x.relate(false, n + 1, 9)) : goal;
        }
        Check.askAndRun(x, x.combine(true, goal, x.relate(true, 2, 7)));
        Check.due("one of five is decided", x.conditions(0), 4);
        int[] told = {21, 22, 23};
        for (int c = 0; c < 3; c++) {
            Check.text(x, 0, 2 * c + 1, told[c]);
            Check.text(x, 0, 2 * c + 2, 3);
        }
    }

    /** A row of so many pairs, each of an atom and the rest: two numbers more of the text for each. */
    private static int row(RelationStream x, int last, int pairs) {
        int row = last;
        for (int i = 0; i < pairs; i++) {
            row = x.pair(7, row);
        }
        return row;
    }

    private static void fortyNumbers() {
        Check.about("No text is longer than 40; what is behind that is not told");
        RelationStream x = Check.withPlacesAndAtoms();
        int whole = row(x, x.pair(8, 9), 18);
        Check.askAndRun(x, x.relate(true, 0, whole));
        Check.due("39 numbers: the last but one", x.text(0, 0, 37), 2);
        Check.due("39 numbers: the last", x.text(0, 0, 38), 3);
        Check.due("39 numbers: number 39", x.text(0, 0, 39), -1);
        int cut = x.pair(7, whole);
        Check.askAndRun(x, x.relate(true, 0, cut));
        Check.due("41 numbers: the first", x.text(0, 0, 0), 10);
        Check.due("41 numbers: number 39", x.text(0, 0, 39), 2);
        Check.due("41 numbers: number 40", x.text(0, 0, 40), -1);
        Check.due("41 numbers: number 41", x.text(0, 0, 41), -1);
        int longer = x.pair(7, cut);
        Check.askAndRun(x, x.relate(true, 0, longer));
        Check.due("43 numbers: number 38", x.text(0, 0, 38), 10);
        Check.due("43 numbers: number 39", x.text(0, 0, 39), 1);
        Check.due("43 numbers: number 40", x.text(0, 0, 40), -1);
        Check.askAndRun(x, Check.all(x, x.relate(false, cut, 1), x.relate(false, 2, longer)));
        Check.text(x, 0, 0, 20);
        Check.due("a condition's first term: number 39", x.text(0, 1, 39), 2);
        Check.due("a condition's first term: number 40", x.text(0, 1, 40), -1);
        Check.text(x, 0, 2, 21);
        Check.text(x, 0, 3, 22);
        Check.due("a condition's second term: number 39", x.text(0, 4, 39), 1);
        Check.due("a condition's second term: number 40", x.text(0, 4, 40), -1);
    }

    private static void noNumbersBehind() {
        Check.about("(and variables there have no numbers)");
        RelationStream x = Check.withPlacesAndAtoms();
        int whole = row(x, x.pair(1, 2), 18);
        int apart = x.relate(false, 3, x.pair(2, 1));
        Check.askAndRun(x, Check.all(x, x.relate(true, 0, whole), apart));
        Check.due("39 numbers: the first variable", x.text(0, 0, 37), 20);
        Check.due("39 numbers: the second variable", x.text(0, 0, 38), 21);
        Check.text(x, 0, 1, 22);
        Check.text(x, 0, 2, 10, 21, 20);
        int cut = x.pair(7, whole);
        Check.askAndRun(x, Check.all(x, x.relate(true, 0, cut), apart));
        Check.due("41 numbers: the first variable", x.text(0, 0, 39), 20);
        Check.text(x, 0, 1, 21);
        Check.text(x, 0, 2, 10, 22, 20);
        int longer = x.pair(7, cut);
        Check.askAndRun(x, Check.all(x, x.relate(true, 0, longer), apart));
        Check.text(x, 0, 1, 20);
        Check.text(x, 0, 2, 10, 21, 22);
        Check.askAndRun(x, Check.all(x, x.relate(false, 4, cut), apart));
        Check.text(x, 0, 0, 20);
        Check.text(x, 0, 1, 21);
        Check.due("a condition's text: the first variable", x.text(0, 2, 39), 22);
        Check.text(x, 0, 3, 23);
        Check.text(x, 0, 4, 10, 24, 22);
    }

    /** Each variable is a pair of the next one, twice: 63 numbers with five, and far more than 2^30 with calls. */
    private static void doubledTexts() {
        Check.about("No text is longer than 40");
        RelationStream x = Check.withPlacesAndAtoms();
        int[] twice = new int[5];
        for (int k = 0; k < 5; k++) {
            twice[k] = x.relate(true, k, x.pair(k + 1, k + 1));
        }
        Check.askAndRun(x, Check.all(x, twice[0], twice[1], twice[2], twice[3]));
        Check.due("31 numbers: the last", x.text(0, 0, 30), 20);
        Check.due("31 numbers: number 31", x.text(0, 0, 31), -1);
        Check.askAndRun(x, Check.all(x, twice[0], twice[1], twice[2], twice[3], twice[4]));
        Check.due("63 numbers: number 4", x.text(0, 0, 4), 10);
        Check.due("63 numbers: number 5", x.text(0, 0, 5), 20);
        Check.due("63 numbers: number 39", x.text(0, 0, 39), 20);
        Check.due("63 numbers: number 40", x.text(0, 0, 40), -1);
        int deeper = x.combine(true, x.relate(true, 0, x.pair(3, 3)), x.call(0, 3, 3, 3));
        x.define(0, deeper);
        x.ask(deeper);
        x.run(111, false);
        x.define(0, x.relate(true, 0, 9));
        x.run(200, false);
        Check.counts("the deepest pair of all", x, 1, 0, 0, 0, 39);
        Check.due("number 37 is a pair yet", x.text(0, 0, 37), 10);
        Check.due("then atoms", x.text(0, 0, 38), 3);
        Check.due("then atoms", x.text(0, 0, 39), 3);
        Check.due("no more", x.text(0, 0, 40), -1);
    }

    private static void whatIsNotThere() {
        Check.about("-1 if the text is not so long, or there is no such condition");
        RelationStream x = Check.withPlacesAndAtoms();
        Check.askAndRun(x, Check.all(x, x.relate(false, 1, 7), x.relate(true, 0, x.pair(8, 9))));
        Check.text(x, 0, 0, 10, 2, 3);
        Check.text(x, 0, 1, 20);
        Check.text(x, 0, 2, 1);
        for (int i : new int[] {3, 4, 39, 40, 41, 100000, GREATEST, -1, -2, LEAST}) {
            Check.due("text(0, 0, " + i + ")", x.text(0, 0, i), -1);
        }
        for (int part = 3; part <= 6; part++) {
            for (int i : new int[] {0, 1, 40, GREATEST, -1, LEAST}) {
                Check.due("text(0, " + part + ", " + i + ")", x.text(0, part, i), -1);
            }
        }
    }

    private static void noSuchAnswerOrPart() {
        Check.about("IndexOutOfBoundsException if there is no such answer or part.");
        RelationStream x = Check.withPlacesAndAtoms();
        int one = x.relate(true, 0, 7);
        int apart = x.relate(false, 0, 7);
        x.ask(x.combine(false, one, apart));
        x.run(1, false);
        Check.refusedInVain(x, "text(0, 0, 0) before an answer", Check.INDEX, () -> x.text(0, 0, 0));
        x.run(1, false);
        Check.text(x, 0, 0, 1);
        Check.refusedInVain(x, "text(1, 0, 0) before its answer", Check.INDEX, () -> x.text(1, 0, 0));
        x.run(1, false);
        Check.text(x, 1, 0, 20);
        for (int wrong : new int[] {-1, 2, 20, LEAST, GREATEST}) {
            Check.refused("text(" + wrong + ", 0, 0)", Check.INDEX, () -> x.text(wrong, 0, 0));
            Check.refused("text(" + wrong + ", 6, -1)", Check.INDEX, () -> x.text(wrong, 6, -1));
        }
        for (int wrong : new int[] {-1, 7, 8, LEAST, GREATEST}) {
            Check.refused("text(0, " + wrong + ", 0)", Check.INDEX, () -> x.text(0, wrong, 0));
            Check.refused("text(1, " + wrong + ", 99)", Check.INDEX, () -> x.text(1, wrong, 99));
        }
        Check.refusedInVain(x, "text(2, 7, 0)", Check.INDEX, () -> x.text(2, 7, 0));
        Check.due("the last part of the last answer", x.text(1, 6, 0), -1);
        Check.text(x, 1, 1, 20);
        x.ask(one);
        Check.refused("text(0, 0, 0) of the next question", Check.INDEX, () -> x.text(0, 0, 0));
    }

    private static void howManyConditions() {
        Check.about("How many conditions an answer has. IndexOutOfBoundsException if there is no such answer.");
        RelationStream x = Check.withPlacesAndAtoms();
        int none = x.relate(true, 0, 7);
        int some = Check.times(x, x.relate(false, 0, 7), 5);
        x.ask(x.combine(false, none, some));
        x.run(1, false);
        Check.refusedInVain(x, "conditions(0) before an answer", Check.INDEX, () -> x.conditions(0));
        x.run(200, true);
        Check.due("none", x.conditions(0), 0);
        Check.refusedInVain(x, "conditions(1) before its answer", Check.INDEX, () -> x.conditions(1));
        x.run(200, true);
        Check.due("five, of which three are told", x.conditions(1), 5);
        for (int wrong : new int[] {-1, 2, 20, LEAST, GREATEST}) {
            Check.refusedInVain(x, "conditions(" + wrong + ")", Check.INDEX, () -> x.conditions(wrong));
        }
    }

    private static void answersApart() {
        Check.about("A STATE has BINDINGS of variables to terms (with the frame of these) and CONDITIONS: pairs of "
                + "terms, in the order in which they came.");
        RelationStream x = Check.withPlacesAndAtoms();
        int apart = x.relate(false, 0, 7);
        int other = x.relate(false, 0, 8);
        int sides = x.combine(false, x.combine(true, other, x.relate(true, 1, 7)), x.relate(true, 0, 9));
        Check.askAndRun(x, x.combine(true, apart, sides));
        Check.due("two answers", x.count(0), 2);
        Check.due("the first has no condition", x.conditions(0), 0);
        Check.text(x, 0, 0, 3);
        Check.text(x, 0, 1);
        Check.due("the second has two", x.conditions(1), 2);
        Check.text(x, 1, 0, 20);
        Check.text(x, 1, 1, 20);
        Check.text(x, 1, 2, 1);
        Check.text(x, 1, 3, 20);
        Check.text(x, 1, 4, 2);
    }

    public static void main(String[] args) {
        numbers();
        manyVariables(19);
        manyVariables(20);
        manyVariables(30);
        questionsVariable();
        conditionTexts();
        firstThree();
        fortyNumbers();
        noNumbersBehind();
        doubledTexts();
        whatIsNotThere();
        noSuchAnswerOrPart();
        howManyConditions();
        answersApart();
        Check.end();
    }
}
