/**
 * The limits of own rules ("Terms", "Own rules"; promises 13 to 16): a test for each sentence of
 * the document that names one.
 */
public final class OwnRuleEdgesTest {
    private static final int MOST = Integer.MAX_VALUE;
    private static final int LEAST = Integer.MIN_VALUE;
    private static final String KINDS = "bnlm";

    public static void main(String[] args) {
        mostOwnRules();
        fallenOnesAmongThem();
        kindsAndPersons();
        rangeOfK();
        placesOfTheRiddle();
        eachSuchClue();
        personsOfAClue();
        standsUntilItFalls();
        counterexamples();
        fallByACounterexample();
        ruleOutOfRangeFirst();
        standsNoSuchRule();
        counterexampleNoSuchRule();
        fallNoSuchRule();
        fallTwice();
        fallOfTheLastOne();
        Due.end();
    }

    private static void mostOwnRules() {
        Due.says("At most 6 own rules have the numbers 10 on");
        RiddlePress x = new RiddlePress();
        for (int rule = 10; rule < 16; rule++) {
            int number = rule;
            Due.is("not yet there", Due.INDEX, () -> x.stands(number));
            Due.is("its number", number, () -> Told.rule(x, "mcf5"));
            Due.is("there", true, () -> x.stands(number));
        }
        Due.says("Throws `IllegalStateException` if there are 6");
        for (String rule : new String[] {"baf1", "nbl5", "mcf3", "mcf5"}) {
            Due.is("a seventh, " + rule, Due.STATE, () -> Told.rule(x, rule));
        }
        Due.is("it is not there", Due.INDEX, () -> x.stands(16));
    }

    private static void fallenOnesAmongThem() {
        Due.says("At most 6 own rules have the numbers 10 on");
        RiddlePress x = new RiddlePress();
        for (int rule = 10; rule < 16; rule++) {
            int number = rule;
            Due.is("its number", number, () -> Told.rule(x, "baf1"));
            Due.is("it falls", 0, () -> x.fall(number));
        }
        Due.is("a seventh after six that fell", Due.STATE, () -> Told.rule(x, "baf1"));
        for (int rule = 10; rule < 16; rule++) {
            int number = rule;
            Due.is("fallen", false, () -> x.stands(number));
        }
    }

    private static void kindsAndPersons() {
        Due.says("Throws `IllegalArgumentException` if there is no such kind or person");
        for (int sign = 0; sign < 65536; sign += sign < 400 ? 1 : 997) {
            char tried = (char) sign;
            Object ofKind = KINDS.indexOf(tried) < 0 ? Due.ARGUMENT : (Object) 10;
            Due.is("kind " + sign, ofKind, () -> new RiddlePress().rule(tried, 'b', false, 1));
            for (char kind : KINDS.toCharArray()) {
                boolean isOne = (kind == 'm' ? "abc" : "ab").indexOf(tried) >= 0;
                Object due = isOne ? (Object) 10 : Due.ARGUMENT;
                Due.is(kind + ", person " + sign, due,
                        () -> new RiddlePress().rule(kind, tried, true, 5));
            }
        }
    }

    private static void rangeOfK() {
        Due.says("k is out of range");
        for (char kind : KINDS.toCharArray()) {
            for (int k : new int[] {0, 6, -1, -5, 257, MOST, LEAST}) {
                RiddlePress x = new RiddlePress();
                Due.is("k " + k, Due.ARGUMENT, () -> x.rule(kind, 'a', true, k));
                Due.is("k " + k, Due.ARGUMENT, () -> x.rule(kind, 'b', false, k));
                Due.is("none told", Due.INDEX, () -> x.stands(10));
            }
            for (int k = 1; k <= 5; k++) {
                int told = k;
                Due.is("k " + k, 10, () -> new RiddlePress().rule(kind, 'a', true, told));
                Due.is("k " + k, 10, () -> new RiddlePress().rule(kind, 'b', false, told));
            }
        }
    }

    /** A cross at a place of a tells whether the rule would have taken this place. */
    private static void placesOfTheRiddle() {
        Due.says("this person has none of the first k places, or of the last k ones");
        for (int n = 3; n <= 6; n++) {
            for (int k = 1; k <= 5; k++) {
                for (int crossed = 0; crossed < n; crossed++) {
                    RiddlePress first = Told.press(n, "n01", "x0" + crossed);
                    Told.rule(first, "naf" + k);
                    takenIs(first, n, k, crossed < k);
                    RiddlePress last = Told.press(n, "n01", "x0" + crossed);
                    Told.rule(last, "nal" + k);
                    takenIs(last, n, k, crossed >= n - k);
                }
            }
        }
    }

    private static void takenIs(RiddlePress x, int n, int k, boolean isCrossed) {
        int due = Math.min(k, n) - (isCrossed ? 1 : 0);
        boolean fails = k >= n;
        x.prove(0);
        Due.is(k + " of " + n + ", taken", due, () -> takenByOwnRule(x));
        if (fails) {
            Due.is(k + " of " + n + ", none left", true, () -> x.leansOn(0, 10));
            Due.is(k + " of " + n + ", failed", 'f', () -> x.prove(0));
        }
    }

    private static int takenByOwnRule(RiddlePress x) {
        for (int step = 0; step < x.steps(0); step++) {
            if (x.ruleAt(0, step) >= 10) {
                return x.takenAt(0, step);
            }
        }
        return 0;
    }

    private static void eachSuchClue() {
        Due.says("for each such clue");
        String[] clues = {"b01", "n01", "l01", "m012"};
        for (String rule : clues) {
            for (String clue : clues) {
                RiddlePress x = Told.press(6, clue);
                Told.rule(x, rule.charAt(0) + "af2");
                x.prove(0);
                boolean due = rule.equals(clue);
                Due.is("rule for " + rule + ", clue " + clue, due, () -> x.leansOn(0, 10));
            }
        }
        RiddlePress x = Told.press(6, "n01", "n23", "n45");
        Told.rule(x, "naf1");
        Due.is("three clues", 'n', () -> x.prove(0));
        Due.is("three clues", "10:0:1 10:1:1 10:2:1 ", () -> Told.steps(x, 0));
        for (String other : new String[] {"p03", "x03", "d015"}) {
            RiddlePress y = Told.press(6, other);
            for (char kind : KINDS.toCharArray()) {
                Told.rule(y, kind + "af5");
            }
            y.prove(0);
            for (int rule = 10; rule < 14; rule++) {
                int own = rule;
                Due.is("no rule for " + other, false, () -> y.leansOn(0, own));
            }
        }
    }

    /** A cross at the place 2 of one person of the clue tells whether the rule is for it. */
    private static void personsOfAClue() {
        Due.says("with a person of the clue, 'a', 'b' or 'c'");
        String[] clues = {"n45", "n54", "m450", "m045"};
        for (String clue : clues) {
            for (int person = 1; person < clue.length(); person++) {
                for (int at = 1; at < clue.length(); at++) {
                    RiddlePress x = Told.press(6, clue);
                    Told.rule(x, "" + clue.charAt(0) + (char) ('a' + person - 1) + "f3");
                    Told.clue(x, 0, "x" + clue.charAt(at) + "2");
                    x.prove(0);
                    boolean isThirdOfM = clue.charAt(0) == 'm' && person == 3;
                    int due = 3 - (at == person ? 1 : 0) - (isThirdOfM ? 1 : 0);
                    Due.is(clue + ", person " + person, due, () -> takenByOwnRule(x));
                }
            }
        }
    }

    private static void standsUntilItFalls() {
        Due.says("It stands until it falls");
        RiddlePress x = Told.press(3, "b01");
        Told.rule(x, "baf1");
        Told.rule(x, "baf1");
        Due.is("stands", true, () -> x.stands(10));
        x.prove(0);
        Due.is("it is of use", true, () -> x.leansOn(0, 10));
        x.fall(10);
        Due.is("fallen", false, () -> x.stands(10));
        Due.is("the other one stands", true, () -> x.stands(11));
        x.prove(0);
        Due.is("it is of no use", false, () -> x.leansOn(0, 10));
        Due.is("the other one is", true, () -> x.leansOn(0, 11));
        Told.rule(x, "baf1");
        Due.is("it falls for ever", false, () -> x.stands(10));
    }

    // ---- counterexamples

    /** All own rules that can be told, with counterexamples that this test finds by itself. */
    private static void counterexamples() {
        Due.says("the one with the fewest persons, at most 6, is told, of several that whose "
                + "places of the persons 0, 1 and so on come first at the first difference");
        for (char kind : KINDS.toCharArray()) {
            for (char person = 'a'; person <= (kind == 'm' ? 'c' : 'b'); person++) {
                for (int k = 1; k <= 5; k++) {
                    counterexample("" + kind + person + "f" + k);
                    counterexample("" + kind + person + "l" + k);
                }
            }
        }
    }

    private static void counterexample(String rule) {
        int digits = 0;
        for (int n = 3; n <= 6 && digits == 0; n++) {
            digits = search(rule, new int[n], 0);
        }
        RiddlePress x = new RiddlePress();
        Told.rule(x, rule);
        Object due = digits == 0 ? Due.NO_ELEMENT : (Object) digits;
        Due.is(rule, due, () -> x.counterexample(10));
        Due.is(rule + ", asked again", due, () -> x.counterexample(10));
    }

    /** Gives the places to the persons from here on; returns the digits of the first order. */
    private static int search(String rule, int[] places, int person) {
        if (person == places.length) {
            return isCounterexample(rule, places) ? digits(places) : 0;
        }
        for (int place = 0; place < places.length; place++) {
            boolean isFree = true;
            for (int other = 0; other < person; other++) {
                isFree = isFree && places[other] != place;
            }
            places[person] = place;
            int found = isFree ? search(rule, places, person + 1) : 0;
            if (found != 0) {
                return found;
            }
        }
        return 0;
    }

    private static int digits(int[] places) {
        StringBuilder text = new StringBuilder().append(places.length);
        for (int place : places) {
            text.append(place);
        }
        return Integer.parseInt(text.toString());
    }

    private static boolean isCounterexample(String rule, int[] places) {
        int a = places[0];
        int b = places[1];
        int c = places[2];
        boolean fits;
        switch (rule.charAt(0)) {
            case 'b':
                fits = a < b;
                break;
            case 'n':
                fits = a == b - 1 || a == b + 1;
                break;
            case 'l':
                fits = a == b - 1;
                break;
            default:
                fits = a < c && c < b || b < c && c < a;
        }
        int place = places[rule.charAt(1) - 'a'];
        int k = rule.charAt(3) - '0';
        boolean isThere = rule.charAt(2) == 'f' ? place < k : place >= places.length - k;
        return fits && isThere;
    }

    private static void fallByACounterexample() {
        Due.says("A rule can fall only by a counterexample");
        for (String rule : new String[] {"bal1", "bbf1", "lal1", "lbf1", "mcf1", "mcl1"}) {
            RiddlePress x = new RiddlePress();
            Told.rule(x, rule);
            Due.is(rule + ", none", Due.NO_ELEMENT, () -> x.counterexample(10));
            Due.is(rule + ", none", Due.UNSUPPORTED, () -> x.fall(10));
            Due.is(rule + " stands", true, () -> x.stands(10));
            RiddlePress y = new RiddlePress();
            Told.rule(y, rule.substring(0, 3) + "2");
            Due.is(rule + " with k 2", 0, () -> y.fall(10));
            Due.is(rule + " with k 2 has fallen", false, () -> y.stands(10));
        }
    }

    // ---- promises 13 to 16

    private static void ruleOutOfRangeFirst() {
        Due.says("Throws `IllegalArgumentException` if there is no such kind or person, or k is "
                + "out of range");
        RiddlePress x = new RiddlePress();
        for (int rule = 0; rule < 6; rule++) {
            Told.rule(x, "baf1");
        }
        Due.is("kind, and 6", Due.ARGUMENT, () -> x.rule('d', 'a', true, 1));
        Due.is("person, and 6", Due.ARGUMENT, () -> x.rule('b', 'c', true, 1));
        Due.is("k, and 6", Due.ARGUMENT, () -> x.rule('b', 'a', true, 6));
        Due.is("only 6", Due.STATE, () -> x.rule('b', 'a', true, 5));
    }

    private static void standsNoSuchRule() {
        Due.says("stands: Throws `IndexOutOfBoundsException` if there is no such rule");
        RiddlePress x = new RiddlePress();
        for (int own = 0; own <= 6; own++) {
            for (int rule : new int[] {-1, 10 + own, 16, 32, 42, MOST, LEAST}) {
                Due.is(own + " own ones, " + rule, Due.INDEX, () -> x.stands(rule));
            }
            for (int rule = 0; rule < 10 + own; rule++) {
                int asked = rule;
                Due.is(own + " own ones, " + rule, true, () -> x.stands(asked));
            }
            if (own < 6) {
                Told.rule(x, "naf1");
            }
        }
    }

    private static void counterexampleNoSuchRule() {
        Due.says("counterexample: Throws `IndexOutOfBoundsException` if there is no such own rule");
        RiddlePress x = new RiddlePress();
        for (int own = 0; own <= 6; own++) {
            for (int rule : new int[] {-1, 0, 9, 10 + own, 16, 42, MOST, LEAST}) {
                Due.is(own + " own ones, " + rule, Due.INDEX, () -> x.counterexample(rule));
            }
            if (own < 6) {
                Told.rule(x, own % 2 == 0 ? "naf1" : "mcl1");
            }
        }
        Due.is("the first", 3012, () -> x.counterexample(10));
        Due.is("the last", Due.NO_ELEMENT, () -> x.counterexample(15));
    }

    private static void fallNoSuchRule() {
        Due.says("fall: Throws `IndexOutOfBoundsException` if there is no such own rule");
        RiddlePress x = new RiddlePress();
        for (int own = 0; own <= 6; own++) {
            for (int rule : new int[] {-1, 0, 9, 10 + own, 16, 42, MOST, LEAST}) {
                Due.is(own + " own ones, " + rule, Due.INDEX, () -> x.fall(rule));
            }
            if (own < 6) {
                Told.rule(x, "naf1");
            }
        }
    }

    private static void fallTwice() {
        Due.says("if there is no counterexample, or it has fallen");
        RiddlePress x = Told.press(3, "b01");
        Told.rule(x, "baf1");
        Due.is("it falls", 0, () -> x.fall(10));
        Due.is("twice", Due.UNSUPPORTED, () -> x.fall(10));
        Due.is("no more than once", Due.UNSUPPORTED, () -> x.fall(10));
        Told.rule(x, "baf1");
        Due.is("one like it", 0, () -> x.fall(11));
    }

    private static void fallOfTheLastOne() {
        Due.says("Returns how many issues are recalled");
        RiddlePress x = new RiddlePress();
        for (int rule = 0; rule < 5; rule++) {
            Told.rule(x, "mcf1");
        }
        Told.rule(x, "baf1");
        for (int issue = 0; issue < 12; issue++) {
            Told.issue(x, Told.weak(x));
            Due.is("leans on the last rule", true, () -> x.leansOn(0, 15));
            x.publish(issue, 0);
        }
        Due.is("all twelve", 12, () -> x.fall(15));
        for (int issue = 0; issue < 12; issue++) {
            int number = issue;
            Due.is("recalled, " + issue, 'r', () -> x.issueState(number));
            Due.is("held, " + issue, 'h', () -> x.state(number));
        }
    }
}
