/** Promises 13 to 16: own rules, their counterexamples and their falls. */
public final class OwnRuleTest {
    public static void main(String[] args) {
        rule();
        ruleWrongInputs();
        stands();
        counterexamples();
        counterexampleWrongInputs();
        fall();
        fallTakesProofs();
        fallTakesOutOfIssues();
        Due.end();
    }

    private static void rule() {
        RiddlePress x = new RiddlePress();
        Due.is("13: b", 10, () -> x.rule('b', 'a', true, 1));
        Due.is("13: n", 11, () -> x.rule('n', 'b', false, 5));
        Due.is("13: l", 12, () -> x.rule('l', 'a', false, 2));
        Due.is("13: m", 13, () -> x.rule('m', 'c', true, 3));
        Due.is("16: a fallen one keeps its number", 0, () -> x.fall(10));
        Due.is("13: m, a", 14, () -> x.rule('m', 'a', true, 4));
        Due.is("13: m, b; the same may be told", 15, () -> x.rule('m', 'a', true, 4));
        Due.is("13: a seventh", Due.STATE, () -> x.rule('b', 'a', true, 1));
        Due.is("13: a seventh, wrong", Due.ARGUMENT, () -> x.rule('b', 'a', true, 0));
    }

    private static void ruleWrongInputs() {
        RiddlePress x = new RiddlePress();
        for (char kind : new char[] {'p', 'x', 'd', 'B', 0, 'b' + 256, 65535}) {
            Due.is("13: " + (int) kind, Due.ARGUMENT, () -> x.rule(kind, 'a', true, 1));
        }
        for (char kind : "bnlm".toCharArray()) {
            for (char person : new char[] {'d', 'A', '0', 0, 'a' + 256, 65535}) {
                Due.is("13: " + kind + (int) person, Due.ARGUMENT,
                        () -> x.rule(kind, person, true, 1));
            }
            for (int k : new int[] {0, 6, -1, Integer.MIN_VALUE, Integer.MAX_VALUE}) {
                Due.is("13: " + kind + k, Due.ARGUMENT, () -> x.rule(kind, 'a', true, k));
            }
        }
        for (char kind : "bnl".toCharArray()) {
            Due.is("13: c of " + kind, Due.ARGUMENT, () -> x.rule(kind, 'c', true, 1));
        }
        Due.is("13: nothing came of these", 10, () -> x.rule('b', 'b', true, 1));
    }

    private static void stands() {
        RiddlePress x = new RiddlePress();
        x.rule('b', 'a', true, 1);
        x.rule('b', 'a', true, 1);
        for (int i = 0; i < 12; i++) {
            int rule = i;
            Due.is("14: " + rule, true, () -> x.stands(rule));
        }
        for (int rule : new int[] {-1, 12, 15, 16, Integer.MAX_VALUE, Integer.MIN_VALUE}) {
            Due.is("14: " + rule, Due.INDEX, () -> x.stands(rule));
        }
        x.fall(10);
        Due.is("14: fallen", false, () -> x.stands(10));
        Due.is("14: the other one", true, () -> x.stands(11));
    }

    /** Told as the kind, the person, f for first or l for last, and k. */
    private static void counterexamples() {
        counterexample("baf1", 3012);
        counterexample("bal1", 0);
        counterexample("bal2", 3120);
        counterexample("bal5", 3012);
        counterexample("bbf1", 0);
        counterexample("bbf2", 3012);
        counterexample("bbl1", 3021);
        counterexample("naf1", 3012);
        counterexample("nal1", 3210);
        counterexample("nbf1", 3102);
        counterexample("nbl1", 3120);
        counterexample("nbl2", 3012);
        counterexample("laf1", 3012);
        counterexample("lal1", 0);
        counterexample("lal2", 3120);
        counterexample("lbf1", 0);
        counterexample("lbf4", 3012);
        counterexample("lbl1", 3120);
        counterexample("maf1", 3021);
        counterexample("mal1", 3201);
        counterexample("mbf1", 3201);
        counterexample("mbl1", 3021);
        counterexample("mcf1", 0);
        counterexample("mcl1", 0);
        counterexample("mcf2", 3021);
        counterexample("mcl2", 3021);
        counterexample("mcl3", 3021);
    }

    private static void counterexample(String told, int due) {
        RiddlePress x = new RiddlePress();
        boolean isFirst = told.charAt(2) == 'f';
        x.rule(told.charAt(0), told.charAt(1), isFirst, told.charAt(3) - '0');
        Object answer = due == 0 ? Due.NO_ELEMENT : (Object) due;
        Due.is("15: " + told, answer, () -> x.counterexample(10));
        Due.is("16: " + told, due == 0 ? Due.UNSUPPORTED : (Object) 0, () -> x.fall(10));
        Due.is("14: " + told, due == 0, () -> x.stands(10));
        Due.is("15: fallen, " + told, answer, () -> x.counterexample(10));
    }

    private static void counterexampleWrongInputs() {
        RiddlePress x = new RiddlePress();
        x.rule('b', 'a', true, 1);
        for (int rule : new int[] {-1, 0, 9, 11, Integer.MAX_VALUE, Integer.MIN_VALUE}) {
            Due.is("15: " + rule, Due.INDEX, () -> x.counterexample(rule));
            Due.is("16: " + rule, Due.INDEX, () -> x.fall(rule));
        }
    }

    private static void fall() {
        RiddlePress x = new RiddlePress();
        x.rule('b', 'a', true, 1);
        Due.is("16: nothing leans on it", 0, () -> x.fall(10));
        Due.is("16: twice", Due.UNSUPPORTED, () -> x.fall(10));
        x.rule('m', 'c', false, 1);
        Due.is("16: no counterexample", Due.UNSUPPORTED, () -> x.fall(11));
        Due.is("16: it stands", true, () -> x.stands(11));
    }

    /** Riddle 0 is whole by the rule 10, riddle 1 not whole, riddle 2 failed, 3 without it. */
    private static RiddlePress pressWithProofs() {
        RiddlePress x = new RiddlePress();
        x.rule('b', 'a', true, 1);
        x.riddle(3);
        x.clue(0, 'b', 0, 1, 0);
        x.riddle(4);
        x.clue(1, 'b', 0, 1, 0);
        x.riddle(3);
        x.clue(2, 'b', 0, 1, 0);
        x.clue(2, 'n', 1, 2, 0);
        x.riddle(3);
        x.clue(3, 'p', 0, 0, 0);
        Due.is("6: whole", 'w', () -> x.prove(0));
        Due.is("6: not whole", 'n', () -> x.prove(1));
        Due.is("6: failed", 'f', () -> x.prove(2));
        Due.is("6: without it", 'n', () -> x.prove(3));
        Due.is("11: not whole, leans", true, () -> x.leansOn(1, 10));
        Due.is("11: failed, leans", true, () -> x.leansOn(2, 10));
        return x;
    }

    private static void fallTakesProofs() {
        RiddlePress x = pressWithProofs();
        Due.is("12: whole", 'w', () -> x.state(0));
        Due.is("16: no issue", 0, () -> x.fall(10));
        for (int i = 0; i < 3; i++) {
            int riddle = i;
            Due.is("16: open " + i, 'o', () -> x.state(riddle));
            Due.is("16: no proof " + i, Due.NO_ELEMENT, () -> x.steps(riddle));
            Due.is("16: no step " + i, Due.NO_ELEMENT, () -> x.ruleAt(riddle, 0));
            Due.is("16: leans on nothing " + i, false, () -> x.leansOn(riddle, 2));
        }
        Due.is("16: the other one has its proof", 2, () -> x.steps(3));
        Due.is("3: without a proof, a clue", 2, () -> x.clue(0, 'p', 0, 0, 0));
        Due.is("3: with one, none", Due.UNSUPPORTED, () -> x.clue(3, 'p', 0, 0, 0));
        Due.is("6: proved anew", 'n', () -> x.prove(0));
    }

    private static void fallTakesOutOfIssues() {
        RiddlePress x = pressWithProofs();
        x.riddle(3);
        x.clue(4, 'l', 0, 1, 0);
        x.clue(4, 'l', 1, 2, 0);
        x.prove(4);
        x.issue();
        x.issue();
        x.put(0, 4);
        Due.is("18: two", 2, () -> x.put(0, 0));
        Due.is("16: made up, not recalled", 0, () -> x.fall(10));
        Due.is("16: taken out", 'o', () -> x.state(0));
        Due.is("16: left in", 'i', () -> x.state(4));
        Due.is("20: made up yet", 'm', () -> x.issueState(0));
        Due.is("18: open", Due.UNSUPPORTED, () -> x.put(0, 0));
        x.clue(0, 'p', 0, 0, 0);
        x.clue(0, 'p', 1, 1, 0);
        Due.is("6: whole now", 'w', () -> x.prove(0));
        Due.is("18: in another issue", 1, () -> x.put(1, 0));
        Due.is("19: the first one", 0, () -> x.publish(0, 1));
        Due.is("12: in the other one", 'i', () -> x.state(0));
        Due.is("12: on sale", 's', () -> x.state(4));
    }
}
