/**
 * The limits of the figures (promises 29 to 31): a test for each sentence of the document that
 * names one.
 */
public final class FiguresEdgesTest {
    public static void main(String[] args) {
        cleanWithoutAnything();
        cleanWithOneAnswer();
        cleanByOwnRules();
        cleanAfterAFall();
        shareOfNone();
        shareOfTheMost();
        sharesInFloat();
        shareOfEachState();
        meanOfNone();
        meanInDouble();
        meanOfTheMost();
        meanOfEachState();
        Due.end();
    }

    private static void clean(String what, RiddlePress x) {
        Due.is(what, true, x::isClean);
    }

    // ---- promise 29

    private static void cleanWithoutAnything() {
        Due.says("Returns whether no issue on sale holds a riddle whose proof leans on a fallen "
                + "rule");
        RiddlePress x = new RiddlePress();
        clean("new", x);
        Told.riddle(x, 3, "p00", "x00");
        clean("a riddle without an answer", x);
        x.prove(0);
        clean("a failed proof", x);
        x.issue();
        clean("an empty issue", x);
    }

    private static void cleanWithOneAnswer() {
        Due.says("each riddle on sale whose proof leans on no own rule has one answer");
        RiddlePress x = new RiddlePress();
        Told.issue(x, Told.chain(x));
        clean("made up", x);
        x.publish(0, 1);
        clean("on sale", x);
        Due.is("one answer", 1, () -> x.answers(0));
        for (String[] clues : new String[][] {{"p00", "p11"}, {"x00", "x01", "x10"},
            {"p00", "b12"}, {"p00", "n01"}, {"p00", "d012"}}) {
            int riddle = Told.riddle(x, 3, clues);
            x.prove(riddle);
            x.publish(Told.issue(x, riddle), 1);
            clean("on sale, " + clues[0] + clues[1], x);
            Due.is("one answer", 1, () -> x.answers(riddle));
        }
    }

    private static void cleanByOwnRules() {
        Due.says("whose proof leans on no own rule");
        RiddlePress x = new RiddlePress();
        Told.falseRule(x);
        Told.issue(x, Told.weak(x));
        x.publish(0, 1);
        Due.is("more answers than one", 3, () -> x.answers(0));
        clean("but an own rule", x);
    }

    private static void cleanAfterAFall() {
        Due.says("no issue on sale holds a riddle whose proof leans on a fallen rule");
        RiddlePress x = new RiddlePress();
        Told.falseRule(x);
        Told.falseRule(x);
        Told.issue(x, Told.weak(x), Told.chain(x));
        Told.issue(x, Told.chain(x));
        Told.issue(x, Told.weak(x));
        x.publish(0, 1);
        x.publish(1, 1);
        x.fall(10);
        clean("recalled", x);
        Told.issue(x, 0);
        x.publish(3, 1);
        clean("on sale again, by another rule", x);
        x.fall(11);
        clean("recalled again", x);
    }

    // ---- promise 30

    private static void shareOfNone() {
        Due.says("provedShare: Throws `ArithmeticException` if there are none");
        RiddlePress x = new RiddlePress();
        Due.is("no riddles", Due.ARITHMETIC, x::provedShare);
        x.issue();
        x.customer();
        Told.falseRule(x);
        Due.is("no riddles yet", Due.ARITHMETIC, x::provedShare);
        x.riddle(3);
        Due.is("one riddle", 0.0f, x::provedShare);
    }

    private static void shareOfTheMost() {
        Due.says("Returns the share of the riddles whose proof is whole");
        RiddlePress x = new RiddlePress();
        for (int riddle = 0; riddle < 20; riddle++) {
            Told.riddle(x, 3, "l01", "l12");
        }
        Due.is("none of 20", 0.0f, x::provedShare);
        for (int riddle = 0; riddle < 20; riddle++) {
            x.prove(riddle);
            float due = (float) (riddle + 1) / 20.0f;
            Due.is(riddle + 1 + " of 20", due, x::provedShare);
        }
        Due.is("all of 20", 1.0f, x::provedShare);
    }

    private static void sharesInFloat() {
        Due.says("Returns their number divided by that of all, both converted to float");
        RiddlePress x = new RiddlePress();
        Told.chain(x);
        for (int all = 1; all <= 20; all++) {
            float due = 1.0f / (float) all;
            Due.is("1 of " + all, due, x::provedShare);
            if (all < 20) {
                x.riddle(6);
            }
        }
    }

    /** Riddles: 0 and 1 from a recalled issue, back and held; 2 on sale; 3 made up; 4 whole. */
    private static RiddlePress eachState() {
        RiddlePress x = new RiddlePress();
        Told.falseRule(x);
        Told.issue(x, Told.chain(x), Told.weak(x));
        x.publish(0, 1);
        x.fall(10);
        Told.issue(x, Told.chain(x));
        x.publish(1, 1);
        Told.issue(x, Told.chain(x));
        Told.chain(x);
        Told.riddle(x, 3, "p00", "p01");
        x.prove(5);
        Told.riddle(x, 3);
        String states = "bhsiwoo";
        for (int i = 0; i < 7; i++) {
            int riddle = i;
            Due.is("riddle " + i, states.charAt(i), () -> x.state(riddle));
        }
        return x;
    }

    private static void shareOfEachState() {
        Due.says("whose proof is whole, in issues or not, those that come back included");
        Due.is("back, on sale, made up and whole", 4.0f / 7.0f, () -> eachState().provedShare());
        RiddlePress x = new RiddlePress();
        Told.falseRule(x);
        Told.weak(x);
        Due.is("whole", 1.0f, x::provedShare);
        x.fall(10);
        Due.is("lost", 0.0f, x::provedShare);
    }

    // ---- promise 31

    private static void meanOfNone() {
        Due.says("meanSteps: Throws `ArithmeticException` if there are none");
        RiddlePress x = new RiddlePress();
        Due.is("no riddles", Due.ARITHMETIC, x::meanSteps);
        Told.riddle(x, 3, "b01");
        Due.is("no proof", Due.ARITHMETIC, x::meanSteps);
        x.prove(0);
        Due.is("not whole", Due.ARITHMETIC, x::meanSteps);
        Told.riddle(x, 3, "p00", "p01");
        x.prove(1);
        Due.is("failed", Due.ARITHMETIC, x::meanSteps);
        Told.falseRule(x);
        x.prove(0);
        Due.is("whole", 5.0, x::meanSteps);
        x.fall(10);
        Due.is("lost", Due.ARITHMETIC, x::meanSteps);
        RiddlePress y = new RiddlePress();
        Told.falseRule(y);
        Told.issue(y, Told.weak(y));
        y.publish(0, 1);
        y.fall(10);
        Due.is("held", Due.ARITHMETIC, y::meanSteps);
    }

    private static void meanInDouble() {
        Due.says("Returns the sum divided by their number, both converted to double");
        RiddlePress x = new RiddlePress();
        int[] steps = {3, 4, 4, 4, 4, 3};
        String[][] clues = {{"l01", "l12"}, {"p00", "p11"}, {"p00", "n01"}, {"p00", "d012"},
            {"p00", "b12"}, {"l21", "l10"}};
        int sum = 0;
        for (int i = 0; i < steps.length; i++) {
            int riddle = Told.riddle(x, 3, clues[i]);
            x.prove(riddle);
            Due.is("steps of " + i, steps[i], () -> x.steps(riddle));
            sum += steps[i];
            double due = (double) sum / (double) (i + 1);
            Due.is("mean of " + (i + 1), due, x::meanSteps);
        }
    }

    private static void meanOfTheMost() {
        Due.says("Returns the mean number of steps of the whole proofs");
        RiddlePress x = new RiddlePress();
        Told.rule(x, "nal1");
        Told.rule(x, "nal2");
        Told.rule(x, "mal2");
        for (int i = 0; i < 19; i++) {
            Told.riddle(x, 6, "n153", "n521", "n525", "l320", "d313", "n154", "d423");
            x.prove(i);
        }
        Due.is("19 of 27 steps", 27.0, x::meanSteps);
        Told.chain(x);
        Due.is("and one of 3", 516.0 / 20.0, x::meanSteps);
    }

    private static void meanOfEachState() {
        Due.says("of the whole proofs");
        RiddlePress x = eachState();
        Due.is("back, on sale, made up and whole", 3.0, x::meanSteps);
        Told.riddle(x, 3, "p00", "p11");
        x.prove(7);
        Due.is("one more", 16.0 / 5.0, x::meanSteps);
        Told.falseRule(x);
        x.prove(1);
        Due.is("the held one, whole now", 21.0 / 6.0, x::meanSteps);
    }
}
