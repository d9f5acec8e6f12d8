/** Promises 12 and 16 to 21: issues, the states of their riddles, the index and recalls. */
public final class IssueTest {
    public static void main(String[] args) {
        issue();
        put();
        putWrongInputs();
        publish();
        publishWrongInputs();
        indexed();
        statesOfRiddles();
        recall();
        recallOfSeveral();
        heldAndProved();
        heldThatLoses();
        backThatLoses();
        backThatStays();
        Due.end();
    }

    private static void state(RiddlePress x, int riddle, char due) {
        Due.is("12: state of " + riddle, due, () -> x.state(riddle));
    }

    private static void issueState(RiddlePress x, int issue, char due) {
        Due.is("20: state of " + issue, due, () -> x.issueState(issue));
    }

    private static void issue() {
        RiddlePress x = new RiddlePress();
        for (int i = 0; i < 12; i++) {
            int number = i;
            Due.is("17: number", number, x::issue);
            issueState(x, number, 'm');
        }
        Due.is("17: a 13th", Due.STATE, x::issue);
        Due.is("20: no issue 12", Due.INDEX, () -> x.issueState(12));
        Due.is("20: no issue -1", Due.INDEX, () -> x.issueState(-1));
    }

    private static void put() {
        RiddlePress x = new RiddlePress();
        x.issue();
        x.issue();
        for (int i = 0; i < 6; i++) {
            Told.chain(x);
        }
        for (int i = 0; i < 4; i++) {
            int riddle = i;
            Due.is("18: count", riddle + 1, () -> x.put(0, riddle));
            state(x, riddle, 'i');
        }
        Due.is("18: a fifth", Due.STATE, () -> x.put(0, 4));
        Due.is("18: in it already", Due.UNSUPPORTED, () -> x.put(0, 3));
        Due.is("18: in another one", Due.UNSUPPORTED, () -> x.put(1, 3));
        state(x, 4, 'w');
        Due.is("18: counts are of each", 1, () -> x.put(1, 4));
        x.publish(0, 0);
        Due.is("18: on sale, 4 riddles", Due.UNSUPPORTED, () -> x.put(0, 5));
        Due.is("18: a riddle on sale", Due.UNSUPPORTED, () -> x.put(1, 0));
        Due.is("6: in an issue", Due.UNSUPPORTED, () -> x.prove(4));
        Due.is("6: on sale", Due.UNSUPPORTED, () -> x.prove(0));
    }

    private static void putWrongInputs() {
        RiddlePress x = new RiddlePress();
        x.issue();
        Told.chain(x);
        Due.is("18: no issue 1", Due.INDEX, () -> x.put(1, 0));
        Due.is("18: no issue -1", Due.INDEX, () -> x.put(-1, 0));
        Due.is("18: no riddle 1", Due.INDEX, () -> x.put(0, 1));
        Due.is("18: no riddle -1", Due.INDEX, () -> x.put(0, -1));
        x.riddle(3);
        Due.is("18: without a proof", Due.UNSUPPORTED, () -> x.put(0, 1));
        x.prove(1);
        Due.is("18: not whole", Due.UNSUPPORTED, () -> x.put(0, 1));
        x.riddle(3);
        x.clue(2, 'p', 0, 0, 0);
        x.clue(2, 'p', 1, 0, 0);
        x.prove(2);
        Due.is("18: failed", Due.UNSUPPORTED, () -> x.put(0, 2));
        Due.is("18: whole", 1, () -> x.put(0, 0));
    }

    private static void publish() {
        RiddlePress x = new RiddlePress();
        x.issue();
        x.issue();
        Told.chain(x);
        Told.chain(x);
        Told.chain(x);
        x.put(0, 0);
        x.put(0, 1);
        x.put(1, 2);
        Due.is("19: no customers", 0, () -> x.publish(0, 1000));
        issueState(x, 0, 's');
        issueState(x, 1, 'm');
        state(x, 0, 's');
        state(x, 1, 's');
        state(x, 2, 'i');
    }

    private static void publishWrongInputs() {
        RiddlePress x = new RiddlePress();
        x.issue();
        x.issue();
        Told.chain(x);
        Due.is("19: no riddles", Due.UNSUPPORTED, () -> x.publish(0, 1));
        Due.is("19: no riddles, price", Due.ARGUMENT, () -> x.publish(0, 1001));
        x.put(0, 0);
        Due.is("19: no riddles, the other", Due.UNSUPPORTED, () -> x.publish(1, 1));
        Due.is("19: price 1001", Due.ARGUMENT, () -> x.publish(0, 1001));
        Due.is("19: price -1", Due.ARGUMENT, () -> x.publish(0, -1));
        Due.is("19: no issue, price", Due.INDEX, () -> x.publish(2, -1));
        Due.is("19: no issue -1", Due.INDEX, () -> x.publish(-1, 1));
        issueState(x, 0, 'm');
        Due.is("19: price 0", 0, () -> x.publish(0, 0));
        Due.is("19: twice", Due.UNSUPPORTED, () -> x.publish(0, 0));
        Due.is("19: twice, price", Due.ARGUMENT, () -> x.publish(0, -1));
    }

    private static void indexed() {
        RiddlePress x = new RiddlePress();
        Told.falseRule(x);
        x.issue();
        x.issue();
        x.issue();
        x.put(0, Told.chain(x));
        x.put(0, Told.chain(x));
        x.put(1, Told.weak(x));
        x.put(2, Told.chain(x));
        Due.is("21: made up", 0, () -> x.indexed(4));
        x.publish(0, 1);
        Due.is("21: an issue counts once", 1, () -> x.indexed(4));
        x.publish(1, 1);
        x.publish(2, 1);
        Due.is("21: rule 4", 2, () -> x.indexed(4));
        Due.is("21: rule 10", 1, () -> x.indexed(10));
        Due.is("21: rule 2", 1, () -> x.indexed(2));
        Due.is("21: rule 0", 0, () -> x.indexed(0));
        x.fall(10);
        Due.is("21: recalled", 0, () -> x.indexed(2));
        Due.is("21: fallen", 0, () -> x.indexed(10));
        Due.is("21: not recalled", 2, () -> x.indexed(4));
        Due.is("21: no rule 11", Due.INDEX, () -> x.indexed(11));
        Due.is("21: no rule -1", Due.INDEX, () -> x.indexed(-1));
    }

    private static void statesOfRiddles() {
        RiddlePress x = new RiddlePress();
        Told.falseRule(x);
        x.issue();
        x.riddle(3);
        state(x, 0, 'o');
        Told.weak(x);
        Told.chain(x);
        state(x, 1, 'w');
        x.put(0, 1);
        x.put(0, 2);
        state(x, 1, 'i');
        x.publish(0, 7);
        state(x, 1, 's');
        x.fall(10);
        state(x, 1, 'h');
        state(x, 2, 'b');
        Due.is("12: no riddle 3", Due.INDEX, () -> x.state(3));
    }

    private static void recall() {
        RiddlePress x = new RiddlePress();
        Told.falseRule(x);
        Told.falseRule(x);
        x.issue();
        x.issue();
        x.put(0, Told.weak(x));
        x.put(0, Told.chain(x));
        x.put(1, Told.chain(x));
        x.publish(0, 5);
        x.publish(1, 5);
        Due.is("11: on the first one", true, () -> x.leansOn(0, 10));
        Due.is("11: not on the second one", false, () -> x.leansOn(0, 11));
        Due.is("16: one issue", 1, () -> x.fall(10));
        issueState(x, 0, 'r');
        issueState(x, 1, 's');
        state(x, 0, 'b');
        state(x, 1, 'b');
        state(x, 2, 's');
        Due.is("16: proved anew by another one", true, () -> x.leansOn(0, 11));
        Due.is("16: not by the fallen one", false, () -> x.leansOn(0, 10));
        Due.is("7: of the new proof", 5, () -> x.steps(0));
        Due.is("7: as before", 3, () -> x.steps(1));
        Due.is("6: comes back", Due.UNSUPPORTED, () -> x.prove(0));
        Due.is("3: comes back", Due.UNSUPPORTED, () -> x.clue(0, 'p', 0, 0, 0));
        Due.is("18: recalled", Due.UNSUPPORTED, () -> x.put(0, 0));
        Due.is("19: recalled", Due.UNSUPPORTED, () -> x.publish(0, 5));
        Due.is("18: back into an issue", x.issue() - 1, () -> x.put(2, 0));
        state(x, 0, 'i');
        Due.is("19: on sale again", 0, () -> x.publish(2, 5));
        Due.is("16: recalled again", 1, () -> x.fall(11));
        issueState(x, 2, 'r');
        issueState(x, 0, 'r');
        state(x, 0, 'h');
        state(x, 1, 'b');
    }

    private static void recallOfSeveral() {
        RiddlePress x = new RiddlePress();
        Told.falseRule(x);
        for (int issue = 0; issue < 4; issue++) {
            x.issue();
            x.put(issue, Told.weak(x));
            x.put(issue, Told.weak(x));
            if (issue != 2) {
                x.publish(issue, issue);
            }
        }
        Due.is("21: three", 3, () -> x.indexed(10));
        Due.is("16: three", 3, () -> x.fall(10));
        String states = "rrmr";
        for (int issue = 0; issue < 4; issue++) {
            issueState(x, issue, states.charAt(issue));
            state(x, 2 * issue, issue == 2 ? 'o' : 'h');
            state(x, 2 * issue + 1, issue == 2 ? 'o' : 'h');
        }
        Due.is("19: its riddles are out", Due.UNSUPPORTED, () -> x.publish(2, 2));
    }

    private static void heldAndProved() {
        RiddlePress x = new RiddlePress();
        Told.falseRule(x);
        x.issue();
        x.issue();
        x.put(0, Told.weak(x));
        x.publish(0, 5);
        x.fall(10);
        state(x, 0, 'h');
        Due.is("7: a held one has a proof", 1, () -> x.steps(0));
        Due.is("3: so no clue", Due.UNSUPPORTED, () -> x.clue(0, 'p', 0, 0, 0));
        Due.is("18: held", Due.UNSUPPORTED, () -> x.put(1, 0));
        Due.is("6: not whole", 'n', () -> x.prove(0));
        state(x, 0, 'h');
        Told.falseRule(x);
        state(x, 0, 'h');
        Due.is("6: whole by a new rule", 'w', () -> x.prove(0));
        state(x, 0, 'w');
        x.rule('b', 'b', true, 5);
        Due.is("6: failed by another one", 'f', () -> x.prove(0));
        state(x, 0, 'o');
        x.fall(12);
        state(x, 0, 'o');
        Due.is("6: whole again", 'w', () -> x.prove(0));
        Due.is("18: in an issue again", 1, () -> x.put(1, 0));
    }

    private static void heldThatLoses() {
        RiddlePress x = new RiddlePress();
        Told.falseRule(x);
        x.issue();
        x.put(0, Told.weak(x));
        x.publish(0, 5);
        x.rule('b', 'b', false, 2);
        x.fall(10);
        state(x, 0, 'h');
        Due.is("11: a held one leans", true, () -> x.leansOn(0, 11));
        Due.is("16: no issue on sale", 0, () -> x.fall(11));
        state(x, 0, 'o');
        Due.is("7: it lost its proof", Due.NO_ELEMENT, () -> x.steps(0));
        Due.is("3: a clue again", 2, () -> x.clue(0, 'p', 0, 0, 0));
        Due.is("4: with it", 2, () -> x.answers(0));
    }

    private static void backThatLoses() {
        RiddlePress x = new RiddlePress();
        Told.falseRule(x);
        Told.falseRule(x);
        x.issue();
        x.put(0, Told.weak(x));
        x.put(0, Told.chain(x));
        x.publish(0, 5);
        x.fall(10);
        state(x, 0, 'b');
        Due.is("16: no issue on sale", 0, () -> x.fall(11));
        state(x, 0, 'o');
        state(x, 1, 'b');
        Due.is("11: no proof", false, () -> x.leansOn(0, 2));
    }

    private static void backThatStays() {
        RiddlePress x = new RiddlePress();
        Told.falseRule(x);
        x.rule('n', 'a', true, 5);
        x.issue();
        x.issue();
        x.put(0, Told.weak(x));
        x.put(0, Told.chain(x));
        x.publish(0, 5);
        x.fall(10);
        x.put(1, 1);
        Due.is("16: nothing leans on it", 0, () -> x.fall(11));
        state(x, 0, 'h');
        state(x, 1, 'i');
        Due.is("19: the riddle that came back", 0, () -> x.publish(1, 9));
        state(x, 1, 's');
    }
}
