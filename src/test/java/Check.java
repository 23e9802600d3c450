/** Counts what is not as it is due, and prints it. */
final class Check {
    interface Call {
        long answer();
    }

    interface Action {
        void act();
    }

    static final String ARGUMENT = "IllegalArgumentException";
    static final String STATE = "IllegalStateException";
    static final String INDEX = "IndexOutOfBoundsException";

    private static int wrong = 0;
    private static int looked = 0;

    private Check() {
    }

    /** Terms 0 .. 5 are the places, terms 6 .. 9 the atoms 0 .. 3. */
    static RelationStream withPlacesAndAtoms() {
        RelationStream x = new RelationStream();
        for (int k = 0; k < 6; k++) {
            x.place(k);
        }
        for (int a = 0; a < 4; a++) {
            x.atom(a);
        }
        return x;
    }

    static void due(String what, long got, long want) {
        looked++;
        if (got != want) {
            wrong++;
            System.out.println(what + " answered " + got + ", due is " + want);
        }
    }

    static void refused(String what, String want, Call call) {
        String got = "nothing";
        try {
            call.answer();
        } catch (RuntimeException e) {
            got = e.getClass().getSimpleName();
        }
        looked++;
        if (!got.equals(want)) {
            wrong++;
            System.out.println(what + " throws " + got + ", due is " + want);
        }
    }

    static void refusedAction(String what, String want, Action action) {
        refused(what, want, () -> {
            action.act();
            return 0;
        });
    }

    /** A whole part of an answer's text, and that nothing is behind it. */
    static void text(RelationStream x, int answer, int part, int... want) {
        String what = "text of answer " + answer + " part " + part;
        for (int i = 0; i < want.length; i++) {
            due(what + " number " + i, x.text(answer, part, i), want[i]);
        }
        due(what + " number " + want.length, x.text(answer, part, want.length), -1);
    }

    /** The numbers that count(0), count(1), .. answer. */
    static void counts(String what, RelationStream x, int... want) {
        for (int i = 0; i < want.length; i++) {
            due(what + ": count(" + i + ")", x.count(i), want[i]);
        }
    }

    static void end() {
        System.out.println(looked + " answers looked at, " + wrong + " wrong");
        System.exit(wrong == 0 && looked > 0 ? 0 : 1);
    }
}
