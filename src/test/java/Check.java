/** Counts what is not as it is due, and prints it with the document's sentence that it is about. */
final class Check {
    interface Call {
        long answer();
    }

    interface Action {
        void act();
    }

    static final String ARGUMENT = "IllegalArgumentException";
    static final String STATE = "IllegalStateException";
    static final String INDEX = "IndexOutOfBoundsException";

    private static int wrong = 0;
    private static int looked = 0;
    private static String sentence = "";

    private Check() {
    }

    /** The sentence of the document that is looked at from here on. */
    static void about(String words) {
        sentence = words;
    }

    /** Terms 0 .. 5 are the places, terms 6 .. 9 the atoms 0 .. 3. */
    static RelationStream withPlacesAndAtoms() {
        RelationStream x = new RelationStream();
        for (int k = 0; k < 6; k++) {
            x.place(k);
        }
        for (int a = 0; a < 4; a++) {
            x.atom(a);
        }
        return x;
    }

    /** All of these goals, one after the other. */
    static int all(RelationStream x, int... goals) {
        int goal = goals[goals.length - 1];
        for (int i = goals.length - 2; i >= 0; i--) {
            goal = x.combine(true, goals[i], goal);
        }
        return goal;
    }

    /** One goal so many times, one after the other, out of few goals: those that do it 1, 2, 4, .. times. */
    static int times(RelationStream x, int goal, int times) {
        int whole = -1;
        int power = goal;
        for (int left = times; left > 0; left /= 2) {
            if (left % 2 == 1) {
                whole = whole < 0 ? power : x.combine(true, whole, power);
            }
            if (left > 1) {
                power = x.combine(true, power, power);
            }
        }
        return whole;
    }

    /** Asks a goal and runs it till no more steps are done: how many there were. */
    static int askAndRun(RelationStream x, int goal) {
        x.ask(goal);
        int steps = 0;
        int more = 200;
        for (int i = 0; i < 10 && more == 200; i++) {
            more = x.run(200, false);
            steps += more;
        }
        return steps;
    }

    private static void judge(boolean good, String words) {
        looked++;
        if (!good) {
            wrong++;
            System.out.println((sentence.isEmpty() ? "" : "\"" + sentence + "\": ") + words);
        }
    }

    static void due(String what, long got, long want) {
        judge(got == want, what + " answered " + got + ", due is " + want);
    }

    static void refused(String what, String want, Call call) {
        String got = "nothing";
        try {
            call.answer();
        } catch (RuntimeException e) {
            got = e.getClass().getSimpleName();
        }
        judge(got.equals(want), what + " throws " + got + ", due is " + want);
    }

    static void refusedAction(String what, String want, Action action) {
        refused(what, want, () -> {
            action.act();
            return 0;
        });
    }

    /** A call is refused, and the calls after it answer as if it had not been. */
    static void refusedInVain(RelationStream x, String what, String want, Action action) {
        String before = seen(x);
        refusedAction(what, want, action);
        unchanged("after " + what, before, x);
    }

    /** All that is seen of the question: its status, its counts, and its answers with their texts. */
    static String seen(RelationStream x) {
        StringBuilder all = new StringBuilder();
        all.append("status ").append(x.status()).append(", ").append(seenCounts(x));
        for (int answer = 0; answer < x.count(0); answer++) {
            all.append(", answer ").append(answer).append(" with ").append(x.conditions(answer)).append(':');
            for (int part = 0; part < 7; part++) {
                all.append(seenText(x, answer, part));
            }
        }
        return all.toString();
    }

    static String seenCounts(RelationStream x) {
        StringBuilder all = new StringBuilder("counts");
        for (int what = 0; what < 8; what++) {
            all.append(' ').append(x.count(what));
        }
        return all.toString();
    }

    private static String seenText(RelationStream x, int answer, int part) {
        StringBuilder all = new StringBuilder(" (");
        int number = 0;
        for (int i = 0; i < 41 && number >= 0; i++) {
            number = x.text(answer, part, i);
            all.append(number < 0 ? ")" : number + " ");
        }
        return all.toString();
    }

    static void unchanged(String what, String before, RelationStream x) {
        String now = seen(x);
        judge(now.equals(before), what + " there is: " + now + "; due is: " + before);
    }

    static void unchangedCounts(String what, String before, RelationStream x) {
        String now = seenCounts(x);
        judge(now.equals(before), what + " there is: " + now + "; due is: " + before);
    }

    /** A whole part of an answer's text, and that nothing is behind it. */
    static void text(RelationStream x, int answer, int part, int... want) {
        String what = "text of answer " + answer + " part " + part;
        for (int i = 0; i < want.length; i++) {
            due(what + " number " + i, x.text(answer, part, i), want[i]);
        }
        due(what + " number " + want.length, x.text(answer, part, want.length), -1);
    }

    /** The numbers that count(0), count(1), .. answer. */
    static void counts(String what, RelationStream x, int... want) {
        for (int i = 0; i < want.length; i++) {
            due(what + ": count(" + i + ")", x.count(i), want[i]);
        }
    }

    static void end() {
        System.out.println(looked + " answers looked at, " + wrong + " wrong");
        System.exit(wrong == 0 && looked > 0 ? 0 : 1);
    }
}
