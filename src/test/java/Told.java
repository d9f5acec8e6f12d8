/** Riddles and presses that several tests need, told in short. */
final class Told {
    private Told() {
    }

    /** Adds a riddle; each clue is told as kind, a, b and c: "d012". */
    static int riddle(RiddlePress x, int persons, String... clues) {
        int riddle = x.riddle(persons);
        for (String clue : clues) {
            clue(x, riddle, clue);
        }
        return riddle;
    }

    static int clue(RiddlePress x, int riddle, String clue) {
        int c = clue.length() > 3 ? clue.charAt(3) - '0' : 0;
        return x.clue(riddle, clue.charAt(0), clue.charAt(1) - '0', clue.charAt(2) - '0', c);
    }

    /** Adds riddles of 3 persons, so many. */
    static void riddles(RiddlePress x, int count) {
        for (int i = 0; i < count; i++) {
            x.riddle(3);
        }
    }

    /** A press with one riddle. */
    static RiddlePress press(int persons, String... clues) {
        RiddlePress x = new RiddlePress();
        riddle(x, persons, clues);
        return x;
    }

    /** Tells an own rule as the kind, the person, f for first or l for last, and k: "baf1". */
    static int rule(RiddlePress x, String told) {
        boolean isFirst = told.charAt(2) == 'f';
        return x.rule(told.charAt(0), told.charAt(1), isFirst, told.charAt(3) - '0');
    }

    /** An own rule with a counterexample; what weak adds leans on the first one that stands. */
    static int falseRule(RiddlePress x) {
        return rule(x, "baf1");
    }

    /** Adds a riddle that is whole by the rule 4 alone, and returns its number. */
    static int chain(RiddlePress x) {
        int riddle = riddle(x, 3, "l01", "l12");
        x.prove(riddle);
        return riddle;
    }

    /** Adds a riddle that is whole if a falseRule stands, and otherwise not whole. */
    static int weak(RiddlePress x) {
        int riddle = riddle(x, 3, "b01");
        x.prove(riddle);
        return riddle;
    }

    /** Makes up an issue with these riddles. */
    static int issue(RiddlePress x, int... riddles) {
        int issue = x.issue();
        for (int riddle : riddles) {
            x.put(issue, riddle);
        }
        return issue;
    }

    /** The steps of a proof as rule:cause:taken, each followed by a blank. */
    static String steps(RiddlePress x, int riddle) {
        StringBuilder text = new StringBuilder();
        for (int i = 0; i < x.steps(riddle); i++) {
            text.append(x.ruleAt(riddle, i)).append(':').append(x.causeAt(riddle, i));
            text.append(':').append(x.takenAt(riddle, i)).append(' ');
        }
        return text.toString();
    }

    /** The places of the persons in the first answer, as digits. */
    static String answer(RiddlePress x, int riddle, int persons) {
        StringBuilder text = new StringBuilder();
        for (int person = 0; person < persons; person++) {
            text.append(x.answer(riddle, person));
        }
        return text.toString();
    }
}
