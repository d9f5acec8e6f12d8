/** Promises 1 to 5: a new press, riddles, their clues and their answers. */
public final class RiddleTest {
    public static void main(String[] args) {
        newPress();
        riddle();
        clueKinds();
        clueWrongInputs();
        clueOrderOfExceptions();
        answersOfEachKind();
        answersTogether();
        firstAnswer();
        Due.end();
    }

    private static void newPress() {
        RiddlePress x = new RiddlePress();
        Due.is("1: no riddle", Due.INDEX, () -> x.state(0));
        Due.is("1: no issue", Due.INDEX, () -> x.issueState(0));
        Due.is("1: no customer", Due.INDEX, () -> x.credits(0));
        Due.is("1: no own rule", Due.INDEX, () -> x.stands(10));
        Due.is("1: nothing in the press", 0L, x::press);
        Due.is("1: clean", true, x::isClean);
        Due.is("1: first riddle", 0, () -> x.riddle(3));
        Due.is("1: first issue", 0, x::issue);
        Due.is("1: first customer", 0, x::customer);
        RiddlePress y = new RiddlePress();
        Due.is("1: presses share nothing", Due.INDEX, () -> y.state(0));
    }

    private static void riddle() {
        RiddlePress x = new RiddlePress();
        for (int persons : new int[] {2, 7, 0, -1, Integer.MIN_VALUE, Integer.MAX_VALUE}) {
            Due.is("2: persons " + persons, Due.ARGUMENT, () -> x.riddle(persons));
        }
        for (int i = 0; i < 20; i++) {
            int number = i;
            Due.is("2: number", number, () -> x.riddle(3 + number % 4));
        }
        Due.is("2: a 21st", Due.STATE, () -> x.riddle(3));
        Due.is("2: range comes first", Due.ARGUMENT, () -> x.riddle(7));
        Due.is("2: open", 'o', () -> x.state(19));
        Due.is("2: without clues, 3 persons", 6, () -> x.answers(0));
        Due.is("2: without clues, 4 persons", 24, () -> x.answers(1));
        Due.is("2: without clues, 5 persons", 120, () -> x.answers(2));
        Due.is("2: without clues, 6 persons", 720, () -> x.answers(3));
    }

    private static void clueKinds() {
        RiddlePress x = new RiddlePress();
        x.riddle(3);
        Due.is("3: p", 1, () -> x.clue(0, 'p', 2, 2, -9));
        Due.is("3: x", 2, () -> x.clue(0, 'x', 0, 2, 99));
        Due.is("3: b", 3, () -> x.clue(0, 'b', 0, 2, -1));
        Due.is("3: n", 4, () -> x.clue(0, 'n', 2, 1, 1));
        Due.is("3: l", 5, () -> x.clue(0, 'l', 1, 2, 2));
        Due.is("3: d", 6, () -> x.clue(0, 'd', 1, 2, 1));
        Due.is("3: m", 7, () -> x.clue(0, 'm', 0, 2, 1));
        Due.is("3: d, k as large as may be", 8, () -> x.clue(0, 'd', 0, 2, 5));
        Due.is("3: a ninth", Due.STATE, () -> x.clue(0, 'p', 0, 0, 0));
        Due.is("3: a ninth, wrong kind", Due.ARGUMENT, () -> x.clue(0, 'q', 0, 0, 0));
        x.riddle(3);
        Due.is("3: clues of their own", 1, () -> x.clue(1, 'p', 0, 0, 0));
    }

    private static void clueWrongInputs() {
        RiddlePress x = new RiddlePress();
        x.riddle(4);
        for (char kind : "pxbnldm".toCharArray()) {
            Due.is("3: a -1, " + kind, Due.ARGUMENT, () -> x.clue(0, kind, -1, 1, 2));
            Due.is("3: a 4, " + kind, Due.ARGUMENT, () -> x.clue(0, kind, 4, 1, 2));
            Due.is("3: b -1, " + kind, Due.ARGUMENT, () -> x.clue(0, kind, 0, -1, 2));
            Due.is("3: b 4, " + kind, Due.ARGUMENT, () -> x.clue(0, kind, 0, 4, 2));
        }
        for (char kind : "bnldm".toCharArray()) {
            Due.is("3: same, " + kind, Due.ARGUMENT, () -> x.clue(0, kind, 1, 1, 2));
        }
        for (int k : new int[] {0, 6, -1, Integer.MAX_VALUE, Integer.MIN_VALUE}) {
            Due.is("3: k " + k, Due.ARGUMENT, () -> x.clue(0, 'd', 0, 1, k));
        }
        for (int c : new int[] {0, 1, 4, -1}) {
            Due.is("3: c " + c, Due.ARGUMENT, () -> x.clue(0, 'm', 0, 1, c));
        }
        for (char kind : new char[] {'P', 'a', 'c', ' ', 0, 'm' + 256, 65535}) {
            Due.is("3: kind " + (int) kind, Due.ARGUMENT, () -> x.clue(0, kind, 0, 1, 2));
        }
        Due.is("3: nothing came of these", 1, () -> x.clue(0, 'p', 0, 0, 0));
    }

    private static void clueOrderOfExceptions() {
        RiddlePress x = new RiddlePress();
        x.riddle(3);
        Due.is("3: no riddle 1", Due.INDEX, () -> x.clue(1, '?', 0, 0, 0));
        Due.is("3: no riddle -1", Due.INDEX, () -> x.clue(-1, 'p', 0, 0, 0));
        for (int i = 0; i < 8; i++) {
            x.clue(0, 'x', 0, 2, 0);
        }
        Due.is("6: not whole", 'n', () -> x.prove(0));
        Due.is("3: proved, wrong", Due.ARGUMENT, () -> x.clue(0, 'p', 3, 0, 0));
        Due.is("3: proved, 8 clues", Due.UNSUPPORTED, () -> x.clue(0, 'p', 0, 0, 0));
        x.riddle(3);
        x.clue(1, 'p', 0, 0, 0);
        x.clue(1, 'p', 1, 0, 0);
        x.prove(1);
        Due.is("3: a failed proof is one", Due.UNSUPPORTED, () -> x.clue(1, 'p', 0, 0, 0));
        x.riddle(3);
        x.clue(2, 'l', 0, 1, 0);
        x.clue(2, 'l', 1, 2, 0);
        Due.is("6: whole", 'w', () -> x.prove(2));
        Due.is("3: a whole proof is one", Due.UNSUPPORTED, () -> x.clue(2, 'p', 0, 0, 0));
    }

    /** How many of the 24 orders of 4 persons fit one clue. */
    private static void answersOfEachKind() {
        answersOf("p", 6, 'p', 0, 3, 0);
        answersOf("x", 18, 'x', 0, 3, 0);
        answersOf("b", 12, 'b', 3, 0, 0);
        answersOf("n", 12, 'n', 1, 2, 0);
        answersOf("l", 6, 'l', 1, 2, 0);
        answersOf("d 1", 12, 'd', 1, 2, 1);
        answersOf("d 2", 8, 'd', 1, 2, 2);
        answersOf("d 3", 4, 'd', 1, 2, 3);
        answersOf("d 4", 0, 'd', 1, 2, 4);
        answersOf("m", 8, 'm', 0, 3, 1);
    }

    private static void answersOf(String what, int due, char kind, int a, int b, int c) {
        RiddlePress x = new RiddlePress();
        x.riddle(4);
        x.clue(0, kind, a, b, c);
        Due.is("4: " + what, due, () -> x.answers(0));
    }

    private static void answersTogether() {
        RiddlePress x = new RiddlePress();
        x.riddle(5);
        Due.is("4: all", 120, () -> x.answers(0));
        x.clue(0, 'l', 0, 1, 0);
        Due.is("4: a new clue counts at once", 24, () -> x.answers(0));
        x.clue(0, 'p', 2, 4, 0);
        Due.is("4: both", 6, () -> x.answers(0));
        x.clue(0, 'p', 3, 4, 0);
        Due.is("4: none", 0, () -> x.answers(0));
        Due.is("5: none", Due.NO_ELEMENT, () -> x.answer(0, 0));
        Due.is("5: no person comes first", Due.INDEX, () -> x.answer(0, 5));
        Due.is("4: no riddle 1", Due.INDEX, () -> x.answers(1));
        Due.is("4: no riddle -1", Due.INDEX, () -> x.answers(-1));
    }

    private static void firstAnswer() {
        RiddlePress x = new RiddlePress();
        x.riddle(4);
        answerIs(x, "0123");
        x.clue(0, 'b', 1, 0, 0);
        answerIs(x, "1023");
        x.clue(0, 'd', 0, 3, 1);
        answerIs(x, "1032");
        x.clue(0, 'm', 1, 3, 0);
        answerIs(x, "1032");
        x.clue(0, 'x', 2, 3, 0);
        answerIs(x, "2013");
        x.clue(0, 'x', 2, 1, 0);
        answerIs(x, "2103");
        x.clue(0, 'x', 2, 0, 0);
        Due.is("5: none left", Due.NO_ELEMENT, () -> x.answer(0, 0));
        Due.is("5: no riddle 1", Due.INDEX, () -> x.answer(1, 0));
        Due.is("5: no riddle -1", Due.INDEX, () -> x.answer(-1, 0));
        Due.is("5: no person -1", Due.INDEX, () -> x.answer(0, -1));
        Due.is("5: no person 4", Due.INDEX, () -> x.answer(0, 4));
    }

    private static void answerIs(RiddlePress x, String places) {
        for (int i = 0; i < places.length(); i++) {
            int person = i;
            int due = places.charAt(i) - '0';
            Due.is("5: " + places + ", " + person, due, () -> x.answer(0, person));
        }
    }
}
