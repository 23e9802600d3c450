/** Promises 9 to 12: ask, run, status and count, with what is refused there and what is seen behind it. */
public final class QuestionsTest {
    private static final int LEAST = Integer.MIN_VALUE;
    private static final int GREATEST = Integer.MAX_VALUE;

    private QuestionsTest() {
    }

    /** An object whose goals are: variable 0 is 1 (0), atoms that are not the same (1), a choice of 1 and 2 (3). */
    private static RelationStream withGoals() {
        RelationStream x = Check.withPlacesAndAtoms();
        x.relate(true, 0, 7);
        x.relate(true, 6, 7);
        x.relate(true, 0, 8);
        x.combine(false, 0, 2);
        return x;
    }

    private static void askAnew() {
        Check.about("A question (the one before and its answers are gone).");
        RelationStream x = withGoals();
        int apart = x.combine(true, x.relate(false, 0, 8), x.relate(false, 1, 7));
        Check.askAndRun(x, apart);
        Check.counts("a question with conditions", x, 1, 0, 0, 0, 1, 2, 2, 3);
        x.ask(0);
        Check.due("asked anew: status", x.status(), 1);
        Check.counts("asked anew", x, 0, 1, 0, 0, 1, 0, 0, 0);
        Check.refused("text of the answer before", Check.INDEX, () -> x.text(0, 0, 0));
        Check.refused("conditions of the answer before", Check.INDEX, () -> x.conditions(0));
        x.run(200, false);
        Check.text(x, 0, 0, 1);
        Check.text(x, 0, 1);
        Check.due("the conditions before are gone", x.conditions(0), 0);
        x.ask(3);
        x.run(1, false);
        x.ask(3);
        Check.counts("asked in the middle of another", x, 0, 1, 0, 0, 1, 0, 0, 0);
    }

    private static void withoutBindingsAndConditions() {
        Check.about("A QUESTION is a task of a goal with a frame and a state without bindings and conditions.");
        RelationStream x = withGoals();
        Check.askAndRun(x, 0);
        Check.text(x, 0, 0, 1);
        Check.askAndRun(x, 2);
        Check.text(x, 0, 0, 2);
        int apart = x.relate(false, 0, 7);
        Check.askAndRun(x, apart);
        Check.due("a condition", x.conditions(0), 1);
        Check.askAndRun(x, 0);
        Check.due("it does not hold for the next question", x.count(0), 1);
        x.define(0, 0);
        Check.askAndRun(x, x.call(0, 1, 6, 6));
        Check.due("frames", x.count(4), 2);
        Check.askAndRun(x, x.relate(true, 0, 1));
        Check.due("frames of the next question", x.count(4), 1);
        Check.text(x, 0, 0, 20);
    }

    private static void askWithoutGoal() {
        Check.about("IllegalArgumentException if there is no such goal.");
        RelationStream x = withGoals();
        for (int wrong : new int[] {-1, 4, 40, LEAST, GREATEST}) {
            Check.refusedInVain(x, "ask(" + wrong + ") without a question", Check.ARGUMENT, () -> x.ask(wrong));
        }
        x.ask(3);
        x.run(2, false);
        for (int wrong : new int[] {-1, 4, 40, LEAST, GREATEST}) {
            Check.refusedInVain(x, "ask(" + wrong + ")", Check.ARGUMENT, () -> x.ask(wrong));
        }
        Check.due("the question before goes on", x.run(200, false), 1);
        Check.text(x, 1, 0, 2);
        Check.refusedInVain(x, "ask(4) behind the end", Check.ARGUMENT, () -> x.ask(4));
        x.ask(0);
        Check.due("the first goal is asked", x.status(), 1);
        x.ask(3);
        Check.due("the last goal is asked", x.run(200, false), 3);
    }

    private static void stepsAsked() {
        Check.about("IllegalArgumentException if it is not 0 .. 200");
        RelationStream x = withGoals();
        x.ask(3);
        for (int wrong : new int[] {-1, 201, LEAST, GREATEST}) {
            Check.refusedInVain(x, "run(" + wrong + ", false)", Check.ARGUMENT, () -> x.run(wrong, false));
            Check.refusedInVain(x, "run(" + wrong + ", true)", Check.ARGUMENT, () -> x.run(wrong, true));
        }
        String before = Check.seen(x);
        Check.due("run(0, false)", x.run(0, false), 0);
        Check.due("run(0, true)", x.run(0, true), 0);
        Check.unchanged("after no step", before, x);
        Check.due("run(200, false)", x.run(200, false), 3);
        Check.refusedInVain(x, "run(201, false) behind the end", Check.ARGUMENT, () -> x.run(201, false));
        Check.due("run(0, false) behind the end", x.run(0, false), 0);
    }

    private static void twoHundredSteps() {
        Check.about("At most so many steps (0 .. 200)");
        RelationStream x = withGoals();
        int long101 = Check.times(x, 0, 101);
        x.ask(long101);
        Check.due("the most steps at once", x.run(200, false), 200);
        Check.counts("200 steps of 201", x, 0, 1, 0, 0, 1, 1, 0, 200);
        Check.due("it goes on", x.status(), 1);
        Check.due("the last step", x.run(200, false), 1);
        Check.counts("201 steps", x, 1, 0, 0, 0, 1, 1, 0, 201);
        Check.due("it has ended", x.status(), 2);
        x.ask(long101);
        Check.due("199 steps", x.run(199, true), 199);
        Check.due("one step", x.run(1, true), 1);
        Check.counts("200 steps of 201", x, 0, 1, 0, 0, 1, 1, 0, 200);
    }

    private static void tillAnAnswerComes() {
        Check.about("till an answer comes if one is enough: how many there were");
        RelationStream x = withGoals();
        x.ask(3);
        Check.due("too few steps for an answer", x.run(1, true), 1);
        Check.due("no answer yet", x.count(0), 0);
        Check.due("the step of the answer", x.run(200, true), 1);
        Check.due("an answer", x.count(0), 1);
        Check.due("the step of the next one, which is the last", x.run(200, true), 1);
        Check.due("two answers", x.count(0), 2);
        Check.due("no more", x.run(200, true), 0);
        x.ask(3);
        Check.due("all at once", x.run(200, true), 2);
        x.ask(3);
        Check.due("if one is not enough", x.run(200, false), 3);
        x.ask(3);
        Check.due("so many steps as there are", x.run(3, false), 3);
        x.ask(3);
        Check.due("one step less", x.run(2, false), 2);
        Check.due("it goes on", x.status(), 1);
        x.ask(x.combine(true, 3, 1));
        Check.due("no answer comes", x.run(200, true), 6);
        Check.due("no answer comes: ended", x.status(), 2);
    }

    private static void runWithoutQuestion() {
        Check.about("IllegalStateException if there is no question.");
        RelationStream x = withGoals();
        for (int steps : new int[] {0, 1, 200}) {
            Check.refusedInVain(x, "run(" + steps + ", false)", Check.STATE, () -> x.run(steps, false));
            Check.refusedInVain(x, "run(" + steps + ", true)", Check.STATE, () -> x.run(steps, true));
        }
        // The document names IllegalArgumentException first.
        Check.refusedInVain(x, "run(-1, false)", Check.ARGUMENT, () -> x.run(-1, false));
        Check.refusedInVain(x, "run(201, true)", Check.ARGUMENT, () -> x.run(201, true));
        Check.refusedAction("ask(4)", Check.ARGUMENT, () -> x.ask(4));
        Check.refused("run behind a question that was refused", Check.STATE, () -> x.run(1, false));
        x.ask(0);
        Check.due("with a question", x.run(1, false), 1);
        Check.due("with one that has ended", x.run(1, false), 0);
    }

    private static void ended() {
        Check.about("If nothing is left, it has ENDED.");
        RelationStream x = withGoals();
        x.ask(1);
        Check.due("a task is left", x.status(), 1);
        Check.due("a step that leaves nothing, without an answer", x.run(200, false), 1);
        Check.due("nothing is left", x.status(), 2);
        Check.counts("nothing is left", x, 0, 0, 0, 0, 1, 0, 0, 1);
        x.ask(3);
        x.run(2, false);
        Check.due("a tree is left behind an answer", x.status(), 1);
        x.run(1, false);
        Check.due("a step that leaves nothing, with an answer", x.status(), 2);
        String before = Check.seen(x);
        Check.due("no more steps", x.run(200, false), 0);
        Check.due("nor one", x.run(1, true), 0);
        Check.unchanged("after no step", before, x);
    }

    private static void statuses() {
        Check.about("0 there is no question, 1 it goes on, 2 it has ended, 3 it is full.");
        RelationStream x = withGoals();
        int again = x.call(0, 0, 0, 0);
        x.define(0, again);
        Check.due("no question", x.status(), 0);
        x.ask(again);
        Check.due("asked", x.status(), 1);
        x.run(39, false);
        Check.due("before it is full", x.status(), 1);
        x.run(1, false);
        Check.due("full", x.status(), 3);
        x.ask(0);
        Check.due("asked", x.status(), 1);
        x.run(0, false);
        Check.due("no step", x.status(), 1);
        x.run(1, false);
        Check.due("ended", x.status(), 2);
        x.ask(again);
        Check.due("asked again", x.status(), 1);
    }

    private static void whatIsCounted() {
        Check.about("IndexOutOfBoundsException for others.");
        RelationStream x = withGoals();
        for (int wrong : new int[] {-1, 8, LEAST, GREATEST}) {
            Check.refusedInVain(x, "count(" + wrong + ") without a question", Check.INDEX, () -> x.count(wrong));
        }
        x.define(0, Check.all(x, x.relate(false, 1, 9), 3, 3));
        x.ask(x.call(0, 0, 4, 6));
        x.run(7, false);
        Check.counts("all that may be counted", x, 0, 3, 2, 1, 2, 6, 1, 7);
        for (int wrong : new int[] {-1, 8, LEAST, GREATEST}) {
            Check.refusedInVain(x, "count(" + wrong + ")", Check.INDEX, () -> x.count(wrong));
        }
        x.run(200, false);
        Check.counts("ended", x, 2, 0, 0, 0, 2, 10, 1, 13);
    }

    private static void countsOfNoQuestion() {
        Check.about("0 if there is none.");
        RelationStream x = withGoals();
        Check.counts("no question", x, 0, 0, 0, 0, 0, 0, 0, 0);
        Check.refusedAction("ask(4)", Check.ARGUMENT, () -> x.ask(4));
        Check.counts("a question that was refused", x, 0, 0, 0, 0, 0, 0, 0, 0);
        x.ask(0);
        Check.counts("a question", x, 0, 1, 0, 0, 1, 0, 0, 0);
    }

    public static void main(String[] args) {
        askAnew();
        withoutBindingsAndConditions();
        askWithoutGoal();
        stepsAsked();
        twoHundredSteps();
        tillAnAnswerComes();
        runWithoutQuestion();
        ended();
        statuses();
        whatIsCounted();
        countsOfNoQuestion();
        Check.end();
    }
}
