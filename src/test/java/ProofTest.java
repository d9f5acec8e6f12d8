/** Promises 6 to 11, and 12 without issues: proofs, their steps and what they lean on. */
public final class ProofTest {
    public static void main(String[] args) {
        rulesZeroAndOne();
        ruleTwo();
        ruleThree();
        ruleFour();
        ruleFive();
        ruleSix();
        rulesSevenToNine();
        secondPartByNothing();
        ownRules();
        ownRulesOfEachSide();
        ownRulesWait();
        provedAnew();
        leansOn();
        noProof();
        noSuchStep();
        Due.end();
    }

    /** The steps are told as rule:cause:taken, each followed by a blank. */
    private static void proof(RiddlePress x, char due, String steps) {
        Due.is("6: " + steps, due, () -> x.prove(0));
        Due.is("8 to 10", steps, () -> Told.steps(x, 0));
        Due.is("7: " + steps, steps.split(" ").length, () -> x.steps(0));
        Due.is("12: " + steps, due == 'w' ? 'w' : 'o', () -> x.state(0));
        for (int i = 0; i < 10; i++) {
            int rule = i;
            boolean leans = (" " + steps).contains(" " + rule + ":");
            Due.is("11: " + rule + " in " + steps, leans, () -> x.leansOn(0, rule));
        }
    }

    private static void rulesZeroAndOne() {
        proof(Told.press(3, "p01", "b12"), 'w', "0:0:2 2:1:2 7:0:2 ");
        proof(Told.press(3, "b12", "p01"), 'w', "0:1:2 2:0:2 7:0:2 ");
        proof(Told.press(3, "x00", "x01", "x10"), 'w', "1:0:1 1:1:1 1:2:1 7:0:2 7:1:1 ");
        proof(Told.press(3, "p00", "p10"), 'f', "0:0:2 0:1:2 7:0:2 ");
        proof(Told.press(3, "p00", "x00"), 'f', "0:0:2 1:1:1 ");
        proof(Told.press(3, "x00", "p00"), 'f', "0:1:2 1:0:1 ");
        proof(Told.press(3, "p00", "p01"), 'f', "0:0:2 0:1:1 ");
    }

    private static void ruleTwo() {
        proof(Told.press(3, "b01", "b12"), 'w', "2:0:2 2:1:3 2:0:1 ");
        proof(Told.press(3, "b01", "b10"), 'f', "2:0:2 2:1:4 ");
        proof(Told.press(4, "p11", "b01"), 'n', "0:0:3 2:1:3 7:0:2 7:1:2 ");
        proof(Told.press(4, "p02", "b01"), 'n', "0:0:3 2:1:3 7:0:2 7:1:2 ");
    }

    private static void ruleThree() {
        proof(Told.press(3, "p00", "n01"), 'w', "0:0:2 3:1:2 7:0:1 7:1:1 ");
        proof(Told.press(4, "p10", "n01"), 'n', "0:0:3 3:1:3 7:0:2 7:1:2 ");
        proof(Told.press(4, "p11", "n01", "x00"), 'n', "0:0:3 1:2:1 3:1:2 7:0:2 7:1:2 ");
        proof(Told.press(3, "p00", "p12", "n01"), 'f', "0:0:2 0:1:2 3:2:2 ");
    }

    private static void ruleFour() {
        proof(Told.press(3, "l01", "l12"), 'w', "4:0:2 4:1:3 4:0:1 ");
        proof(Told.press(3, "p12", "l01"), 'w', "0:0:2 4:1:2 7:0:1 7:1:1 ");
        proof(Told.press(3, "p00", "l10"), 'f', "0:0:2 4:1:4 ");
    }

    private static void ruleFive() {
        proof(Told.press(4, "d013"), 'n', "5:0:4 9:1:4 ");
        proof(Told.press(4, "p01", "d012"), 'n', "0:0:3 5:1:3 7:0:2 7:1:2 ");
        proof(Told.press(4, "p13", "d012"), 'n', "0:0:3 5:1:3 7:0:2 7:1:2 ");
        proof(Told.press(3, "d013"), 'f', "5:0:6 ");
        proof(Told.press(3, "d015"), 'f', "5:0:6 ");
        proof(Told.press(6, "d015"), 'n', "5:0:8 9:1:8 ");
    }

    private static void ruleSix() {
        proof(Told.press(3, "m012"), 'n', "6:0:2 7:2:2 ");
        proof(Told.press(4, "p00", "m012"), 'n', "0:0:3 6:1:2 7:0:2 ");
        proof(Told.press(4, "p10", "m012"), 'n', "0:0:3 6:1:2 7:1:2 ");
        proof(Told.press(4, "p00", "p11", "m012"), 'f', "0:0:3 0:1:3 6:2:4 ");
        proof(Told.press(4, "p00", "p12", "m012"), 'w', "0:0:3 0:1:3 6:2:3 7:0:1 7:1:1 7:2:1 ");
    }

    private static void rulesSevenToNine() {
        proof(Told.press(3, "x00", "x10"), 'n', "1:0:1 1:1:1 8:0:2 ");
        proof(Told.press(4, "x02", "x12", "x22"), 'n', "1:0:1 1:1:1 1:2:1 8:2:3 ");
        proof(Told.press(4, "x02", "x03", "x12", "x13"), 'n', "1:0:1 1:1:1 1:2:1 1:3:1 9:1:4 ");
        proof(Told.press(4, "x20", "x21", "x30", "x31"), 'n', "1:0:1 1:1:1 1:2:1 1:3:1 9:23:4 ");
        proof(Told.press(4, "p11"), 'n', "0:0:3 7:1:3 ");
        proof(Told.press(3, "p00", "p11"), 'w', "0:0:2 0:1:2 7:0:1 7:1:1 ");
        proof(Told.press(4, "x00", "x10", "x20", "x30"), 'n', "1:0:1 1:1:1 1:2:1 1:3:1 ");
    }

    private static void secondPartByNothing() {
        proof(Told.press(3, "p10", "b01"), 'f', "0:0:2 2:1:4 ");
        proof(Told.press(3, "p00", "p10", "n01"), 'f', "0:0:2 0:1:2 3:2:2 ");
        proof(Told.press(3, "p10", "l01"), 'f', "0:0:2 4:1:4 ");
        proof(Told.press(4, "d014"), 'f', "5:0:8 ");
    }

    private static void ownRules() {
        RiddlePress x = Told.press(3, "b01");
        x.rule('n', 'a', true, 1);
        proof(x, 'n', "2:0:2 ");
        x.rule('b', 'a', true, 1);
        proof(x, 'w', "2:0:2 11:0:1 2:0:1 7:0:1 7:1:1 ");
        Due.is("11: the own rule", true, () -> x.leansOn(0, 11));
        Due.is("11: the other one", false, () -> x.leansOn(0, 10));
        Due.is("16: falls", 0, () -> x.fall(11));
        Due.is("6: a fallen rule is of no use", 'n', () -> x.prove(0));
        Due.is("11: it leans no more", false, () -> x.leansOn(0, 11));
    }

    private static void ownRulesOfEachSide() {
        ownRule("n01", 'n', 'a', true, 1, 'n', "10:0:1 ");
        ownRule("n01", 'n', 'b', true, 2, 'n', "10:0:2 3:0:1 ");
        ownRule("n01", 'n', 'a', false, 3, 'n', "10:0:3 3:0:3 7:0:2 7:1:2 ");
        ownRule("n01", 'n', 'a', false, 4, 'f', "10:0:4 ");
        ownRule("n01", 'n', 'b', true, 5, 'f', "10:0:4 ");
        ownRule("m012", 'm', 'a', true, 3, 'n', "6:0:2 10:0:3 7:0:2 ");
        ownRule("m012", 'm', 'b', false, 3, 'n', "6:0:2 10:0:3 7:1:2 ");
        ownRule("m012", 'm', 'c', true, 2, 'n', "6:0:2 10:0:1 7:2:3 ");
        ownRule("m012", 'm', 'c', false, 2, 'n', "6:0:2 10:0:1 7:2:3 ");
        ownRule("l01", 'l', 'b', false, 1, 'n', "4:0:2 10:0:1 4:0:1 ");
        ownRule("l01", 'b', 'b', false, 1, 'n', "4:0:2 ");
        ownRule("n21", 'n', 'a', true, 1, 'n', "10:0:1 ");
        ownRule("n32", 'n', 'b', false, 2, 'n', "10:0:2 3:0:1 ");
        ownRule("m120", 'm', 'c', true, 2, 'n', "6:0:2 10:0:1 7:0:3 ");
    }

    private static void ownRule(String clue, char kind, char person, boolean isFirst, int k,
            char due, String steps) {
        RiddlePress x = Told.press(4, clue);
        x.rule(kind, person, isFirst, k);
        proof(x, due, steps);
    }

    /** After each step the rules are tried from 0 on, so that an own rule has to wait. */
    private static void ownRulesWait() {
        RiddlePress x = Told.press(3, "x00", "x10", "n02");
        x.rule('n', 'a', false, 1);
        proof(x, 'w', "1:0:1 1:1:1 8:0:2 3:2:1 7:0:1 ");
        RiddlePress y = Told.press(5, "x02", "x03", "x04", "x12", "x13", "x14", "b23");
        y.rule('b', 'b', false, 1);
        proof(y, 'n', "1:0:1 1:1:1 1:2:1 1:3:1 1:4:1 1:5:1 2:6:2 9:1:5 2:6:1 10:6:1 2:6:1 "
                + "7:2:1 7:3:1 ");
        RiddlePress z = Told.press(4, "n12", "n12", "l01");
        z.rule('n', 'b', true, 3);
        z.rule('l', 'a', true, 1);
        proof(z, 'w', "4:2:2 10:0:3 3:0:2 4:2:2 7:0:1 7:1:1 7:2:1 ");
    }

    private static void provedAnew() {
        RiddlePress x = Told.press(3, "b01");
        proof(x, 'n', "2:0:2 ");
        x.rule('b', 'a', true, 1);
        Due.is("11: proofs stay as they are", false, () -> x.leansOn(0, 10));
        proof(x, 'w', "2:0:2 10:0:1 2:0:1 7:0:1 7:1:1 ");
        x.rule('b', 'b', false, 1);
        proof(x, 'f', "2:0:2 10:0:1 2:0:1 7:0:1 7:1:1 11:0:1 ");
        x.rule('b', 'a', true, 5);
        x.fall(10);
        proof(x, 'f', "2:0:2 11:0:1 2:0:1 7:0:1 7:1:1 12:0:1 ");
        Due.is("6: no riddle 1", Due.INDEX, () -> x.prove(1));
        Due.is("6: no riddle -1", Due.INDEX, () -> x.prove(-1));
    }

    private static void leansOn() {
        RiddlePress x = Told.press(3, "p00");
        Due.is("11: without a proof", false, () -> x.leansOn(0, 0));
        x.prove(0);
        Due.is("11: with one", true, () -> x.leansOn(0, 0));
        Due.is("11: no rule 10", Due.INDEX, () -> x.leansOn(0, 10));
        Due.is("11: no rule -1", Due.INDEX, () -> x.leansOn(0, -1));
        Due.is("11: no rule 32", Due.INDEX, () -> x.leansOn(0, 32));
        Due.is("11: no riddle 1", Due.INDEX, () -> x.leansOn(1, 0));
        Due.is("11: no riddle -1", Due.INDEX, () -> x.leansOn(-1, 0));
        x.rule('b', 'a', true, 1);
        Due.is("11: a rule 10", false, () -> x.leansOn(0, 10));
    }

    private static void noProof() {
        RiddlePress x = Told.press(3, "p00");
        Due.is("7: none", Due.NO_ELEMENT, () -> x.steps(0));
        Due.is("8: none", Due.NO_ELEMENT, () -> x.ruleAt(0, 0));
        Due.is("9: none", Due.NO_ELEMENT, () -> x.causeAt(0, 0));
        Due.is("10: none", Due.NO_ELEMENT, () -> x.takenAt(0, 0));
        Due.is("12: none", 'o', () -> x.state(0));
        RiddlePress y = Told.press(3);
        Due.is("6: no step", 'n', () -> y.prove(0));
        Due.is("7: no step", 0, () -> y.steps(0));
        Due.is("8: no step", Due.NO_ELEMENT, () -> y.ruleAt(0, 0));
        Due.is("12: no riddle 1", Due.INDEX, () -> y.state(1));
        Due.is("12: no riddle -1", Due.INDEX, () -> y.state(-1));
        Due.is("7: no riddle 1", Due.INDEX, () -> y.steps(1));
        Due.is("7: no riddle -1", Due.INDEX, () -> y.steps(-1));
    }

    private static void noSuchStep() {
        RiddlePress x = Told.press(3, "p01", "b12");
        x.prove(0);
        for (int step : new int[] {3, -1, 36, Integer.MAX_VALUE, Integer.MIN_VALUE}) {
            Due.is("8: " + step, Due.NO_ELEMENT, () -> x.ruleAt(0, step));
            Due.is("9: " + step, Due.NO_ELEMENT, () -> x.causeAt(0, step));
            Due.is("10: " + step, Due.NO_ELEMENT, () -> x.takenAt(0, step));
        }
        for (int riddle : new int[] {1, -1, 20}) {
            Due.is("8: riddle " + riddle, Due.INDEX, () -> x.ruleAt(riddle, 9));
            Due.is("9: riddle " + riddle, Due.INDEX, () -> x.causeAt(riddle, 9));
            Due.is("10: riddle " + riddle, Due.INDEX, () -> x.takenAt(riddle, 9));
        }
    }
}
