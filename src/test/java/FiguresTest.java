/** Promises 29 to 31: whether the press is clean, the share of proofs and their mean steps. */
public final class FiguresTest {
    public static void main(String[] args) {
        none();
        shares();
        sharesOfThirds();
        meanSteps();
        figuresOfIssues();
        isClean();
        Due.end();
    }

    private static void none() {
        RiddlePress x = new RiddlePress();
        Due.is("30: no riddles", Due.ARITHMETIC, x::provedShare);
        Due.is("31: no riddles", Due.ARITHMETIC, x::meanSteps);
        x.riddle(3);
        Due.is("30: no proof", 0.0f, x::provedShare);
        Due.is("31: no proof", Due.ARITHMETIC, x::meanSteps);
        x.prove(0);
        Due.is("30: not whole", 0.0f, x::provedShare);
        Due.is("31: not whole", Due.ARITHMETIC, x::meanSteps);
    }

    private static void shares() {
        RiddlePress x = new RiddlePress();
        Told.chain(x);
        Due.is("30: all", 1.0f, x::provedShare);
        x.riddle(3);
        Due.is("30: half", 0.5f, x::provedShare);
        x.clue(1, 'p', 0, 0, 0);
        x.clue(1, 'p', 1, 0, 0);
        x.prove(1);
        Due.is("30: failed", 0.5f, x::provedShare);
    }

    private static void sharesOfThirds() {
        RiddlePress x = new RiddlePress();
        Told.chain(x);
        x.riddle(3);
        x.riddle(3);
        Due.is("30: a third", 1.0f / 3.0f, x::provedShare);
        Told.chain(x);
        x.riddle(4);
        x.riddle(5);
        x.riddle(6);
        Due.is("30: two of seven", 2.0f / 7.0f, x::provedShare);
    }

    private static void meanSteps() {
        RiddlePress x = new RiddlePress();
        x.rule('b', 'a', true, 1);
        Told.chain(x);
        Due.is("31: three", 3.0, x::meanSteps);
        Told.weak(x);
        Due.is("31: three and five", 4.0, x::meanSteps);
        Told.chain(x);
        Due.is("31: three, three and five", 11.0 / 3.0, x::meanSteps);
        x.riddle(3);
        x.clue(3, 'x', 0, 0, 0);
        x.prove(3);
        Due.is("31: one that is not whole", 11.0 / 3.0, x::meanSteps);
        x.fall(10);
        Due.is("31: a lost one", 3.0, x::meanSteps);
        Due.is("30: a lost one", 0.5f, x::provedShare);
    }

    private static void figuresOfIssues() {
        RiddlePress x = new RiddlePress();
        x.rule('b', 'a', true, 1);
        x.issue();
        x.put(0, Told.chain(x));
        x.put(0, Told.weak(x));
        Due.is("30: made up", 1.0f, x::provedShare);
        Due.is("31: made up", 4.0, x::meanSteps);
        x.publish(0, 1);
        Due.is("30: on sale", 1.0f, x::provedShare);
        Due.is("31: on sale", 4.0, x::meanSteps);
        x.fall(10);
        Due.is("30: back and held", 0.5f, x::provedShare);
        Due.is("31: back and held", 3.0, x::meanSteps);
    }

    private static void isClean() {
        RiddlePress x = new RiddlePress();
        x.rule('b', 'a', true, 1);
        x.rule('b', 'a', true, 1);
        x.issue();
        x.put(0, Told.weak(x));
        x.issue();
        x.put(1, Told.chain(x));
        Due.is("29: made up", true, x::isClean);
        x.publish(0, 1);
        x.publish(1, 1);
        Due.is("4: a wrong rule", 3, () -> x.answers(0));
        Due.is("29: it leans on an own rule", true, x::isClean);
        x.fall(10);
        Due.is("29: recalled", true, x::isClean);
        x.issue();
        x.put(2, 0);
        x.publish(2, 1);
        Due.is("29: on sale again", true, x::isClean);
        x.fall(11);
        Due.is("29: recalled again", true, x::isClean);
    }
}
