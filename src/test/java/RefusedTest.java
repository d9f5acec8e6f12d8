/**
 * "Exceptions. A method that throws an exception changes nothing. If several exceptions apply, the
 * one that is documented first is thrown." Each refused call is made on a press of its own, which
 * is then compared with one that had no such call: by all that can be asked, and by what calls
 * answer afterwards that show what can't be asked.
 */
public final class RefusedTest {
    private static final int MOST = Integer.MAX_VALUE;

    private interface Refused {
        Object on(RiddlePress x);
    }

    private interface Press {
        RiddlePress made();
    }

    private static Press press;
    private static String untouched;

    public static void main(String[] args) {
        Due.says("A method that throws an exception changes nothing");
        on(RefusedTest::busy);
        busyIsAsTold();
        riddlesAndClues();
        proofs();
        ownRules();
        issues();
        customers();
        Due.says("If several exceptions apply, the one that is documented first is thrown");
        firstOfSeveral();
        on(RefusedTest::crowded);
        crowdedCalls();
        on(RiddlePress::new);
        emptyCalls();
        Due.end();
    }

    private static void on(Press made) {
        press = made;
        RiddlePress x = made.made();
        untouched = Picture.of(x) + afterwards(x);
    }

    private static void refused(String what, Object due, Refused call) {
        RiddlePress x = press.made();
        Due.is(what, due, () -> call.on(x));
        Due.is(what + " changes nothing", untouched, () -> Picture.of(x) + afterwards(x));
    }

    /**
     * Riddles: 0 back, 1 held, 2 on sale, 3 in an issue, 4 whole, 5 not whole, 6 without a proof,
     * 7 with 8 clues and no answer, 8 to 11 in an issue. Issues: 0 recalled, 1 on sale for 30, 2
     * made up, 3 made up and full, 4 empty. Own rules: 10 fallen, 11 standing, 12 without a
     * counterexample. Customers: 0 with 70 credits and the issue 1, 1 with 29, 2 with the most.
     */
    private static RiddlePress busy() {
        RiddlePress x = new RiddlePress();
        Told.falseRule(x);
        Told.issue(x, Told.chain(x), Told.weak(x));
        x.publish(0, 5);
        x.fall(10);
        for (int credits : new int[] {100, 29, 2000000000}) {
            x.deposit(x.customer(), credits);
        }
        x.deposit(2, 147483647);
        x.subscribe(0, 3);
        x.subscribe(1, 1);
        Told.issue(x, Told.chain(x));
        x.publish(1, 30);
        Told.issue(x, Told.chain(x));
        Told.chain(x);
        Told.weak(x);
        Told.riddle(x, 3, "b01");
        Told.riddle(x, 3, "p00", "p01", "x02", "x02", "x02", "x02", "x02", "x02");
        Told.falseRule(x);
        Told.rule(x, "mcf1");
        Told.issue(x, Told.chain(x), Told.chain(x), Told.chain(x), Told.chain(x));
        x.issue();
        return x;
    }

    private static void busyIsAsTold() {
        RiddlePress x = busy();
        String states = "bhsiwoooiiii";
        for (int i = 0; i < states.length(); i++) {
            int riddle = i;
            Due.is("riddle " + i, states.charAt(i), () -> x.state(riddle));
        }
        for (int i = 0; i < 5; i++) {
            int issue = i;
            Due.is("issue " + i, "rsmmm".charAt(i), () -> x.issueState(issue));
        }
        Due.is("a proof", 1, () -> x.steps(5));
        Due.is("no proof", Due.NO_ELEMENT, () -> x.steps(6));
        Due.is("no answer", 0, () -> x.answers(7));
        Due.is("fallen", false, () -> x.stands(10));
        Due.is("standing", true, () -> x.stands(11));
        Due.is("credits", 70, () -> x.credits(0));
        Due.is("too few", 29, () -> x.credits(1));
        Due.is("the most", MOST, () -> x.credits(2));
        Due.is("the issue", true, () -> x.has(0, 1));
    }

    /** As much of all as there may be. */
    private static RiddlePress crowded() {
        RiddlePress x = new RiddlePress();
        Told.riddles(x, 20);
        for (int rule = 0; rule < 6; rule++) {
            Told.falseRule(x);
        }
        for (int issue = 0; issue < 12; issue++) {
            x.issue();
        }
        for (int customer = 0; customer < 8; customer++) {
            x.customer();
        }
        return x;
    }

    /** Calls that show how many there are of all, subscribed issues, clues, prices and places. */
    private static String afterwards(RiddlePress x) {
        StringBuilder text = new StringBuilder();
        for (int i = 0; i < 3; i++) {
            int customer = i;
            add(text, () -> x.subscribe(customer, 12));
        }
        for (int i = 5; i < 8; i++) {
            int riddle = i;
            add(text, () -> x.clue(riddle, 'x', 0, 2, 0));
            add(text, () -> x.prove(riddle));
        }
        add(text, () -> x.put(2, 4));
        add(text, () -> x.put(4, 0));
        add(text, () -> x.publish(2, 3));
        add(text, () -> x.buy(0, 1));
        add(text, () -> x.deposit(1, 1));
        add(text, () -> x.buy(1, 1));
        add(text, () -> x.fall(11));
        add(text, x::press);
        add(text, () -> x.rule('m', 'c', false, 1));
        add(text, x::customer);
        add(text, x::issue);
        add(text, () -> x.riddle(3));
        return text.toString();
    }

    private static void add(StringBuilder text, Due.Call call) {
        try {
            text.append(call.answer());
        } catch (RuntimeException e) {
            text.append(e.getClass().getSimpleName());
        }
        text.append('\n');
    }

    // ---- each exception of each call

    private static void riddlesAndClues() {
        refused("riddle(2)", Due.ARGUMENT, x -> x.riddle(2));
        refused("riddle(7)", Due.ARGUMENT, x -> x.riddle(7));
        refused("clue, no riddle", Due.INDEX, x -> x.clue(12, 'p', 0, 0, 0));
        refused("clue, no riddle", Due.INDEX, x -> x.clue(-1, 'p', 0, 0, 0));
        refused("clue, kind", Due.ARGUMENT, x -> x.clue(6, 'q', 0, 1, 2));
        refused("clue, a", Due.ARGUMENT, x -> x.clue(6, 'p', 3, 0, 0));
        refused("clue, place", Due.ARGUMENT, x -> x.clue(6, 'p', 0, 3, 0));
        refused("clue, c", Due.ARGUMENT, x -> x.clue(6, 'm', 0, 1, 3));
        refused("clue, k", Due.ARGUMENT, x -> x.clue(6, 'd', 0, 1, 6));
        refused("clue, same", Due.ARGUMENT, x -> x.clue(6, 'b', 1, 1, 0));
        for (int riddle : new int[] {0, 1, 2, 3, 4, 5}) {
            refused("clue, proof", Due.UNSUPPORTED, x -> x.clue(riddle, 'p', 0, 0, 0));
        }
        refused("clue, 8", Due.STATE, x -> x.clue(7, 'p', 0, 0, 0));
        refused("answers", Due.INDEX, x -> x.answers(12));
        refused("answer, riddle", Due.INDEX, x -> x.answer(12, 0));
        refused("answer, person", Due.INDEX, x -> x.answer(0, 3));
        refused("answer, none", Due.NO_ELEMENT, x -> x.answer(7, 0));
    }

    private static void proofs() {
        refused("prove", Due.INDEX, x -> x.prove(12));
        for (int riddle : new int[] {0, 2, 3, 8, 11}) {
            refused("prove " + riddle, Due.UNSUPPORTED, x -> x.prove(riddle));
        }
        refused("steps", Due.INDEX, x -> x.steps(12));
        refused("steps", Due.NO_ELEMENT, x -> x.steps(6));
        refused("ruleAt", Due.INDEX, x -> x.ruleAt(12, 0));
        refused("ruleAt", Due.NO_ELEMENT, x -> x.ruleAt(0, 3));
        refused("causeAt", Due.INDEX, x -> x.causeAt(12, 0));
        refused("causeAt", Due.NO_ELEMENT, x -> x.causeAt(0, -1));
        refused("takenAt", Due.INDEX, x -> x.takenAt(12, 0));
        refused("takenAt", Due.NO_ELEMENT, x -> x.takenAt(6, 0));
        refused("leansOn, riddle", Due.INDEX, x -> x.leansOn(12, 0));
        refused("leansOn, rule", Due.INDEX, x -> x.leansOn(0, 13));
        refused("state", Due.INDEX, x -> x.state(12));
    }

    private static void ownRules() {
        refused("rule, kind", Due.ARGUMENT, x -> x.rule('p', 'a', true, 1));
        refused("rule, person", Due.ARGUMENT, x -> x.rule('b', 'c', true, 1));
        refused("rule, k", Due.ARGUMENT, x -> x.rule('b', 'a', true, 6));
        refused("stands", Due.INDEX, x -> x.stands(13));
        refused("counterexample", Due.INDEX, x -> x.counterexample(9));
        refused("counterexample", Due.NO_ELEMENT, x -> x.counterexample(12));
        refused("fall", Due.INDEX, x -> x.fall(9));
        refused("fall", Due.INDEX, x -> x.fall(13));
        refused("fall, none", Due.UNSUPPORTED, x -> x.fall(12));
        refused("fall, fallen", Due.UNSUPPORTED, x -> x.fall(10));
    }

    private static void issues() {
        refused("put, issue", Due.INDEX, x -> x.put(5, 4));
        refused("put, riddle", Due.INDEX, x -> x.put(4, 12));
        refused("put, recalled", Due.UNSUPPORTED, x -> x.put(0, 4));
        refused("put, on sale", Due.UNSUPPORTED, x -> x.put(1, 4));
        for (int riddle : new int[] {1, 2, 3, 5, 6, 7, 8}) {
            refused("put " + riddle, Due.UNSUPPORTED, x -> x.put(4, riddle));
        }
        refused("put, full", Due.STATE, x -> x.put(3, 4));
        refused("put, full, back", Due.STATE, x -> x.put(3, 0));
        refused("publish", Due.INDEX, x -> x.publish(5, 1));
        refused("publish, price", Due.ARGUMENT, x -> x.publish(2, 1001));
        refused("publish, price", Due.ARGUMENT, x -> x.publish(2, -1));
        refused("publish, recalled", Due.UNSUPPORTED, x -> x.publish(0, 1));
        refused("publish, on sale", Due.UNSUPPORTED, x -> x.publish(1, 1));
        refused("publish, empty", Due.UNSUPPORTED, x -> x.publish(4, 1));
        refused("issueState", Due.INDEX, x -> x.issueState(5));
        refused("indexed", Due.INDEX, x -> x.indexed(13));
    }

    private static void customers() {
        refused("deposit", Due.INDEX, x -> x.deposit(3, 1));
        refused("deposit, range", Due.ARGUMENT, x -> x.deposit(0, 0));
        refused("deposit, range", Due.ARGUMENT, x -> x.deposit(0, 2000000001));
        refused("deposit, too much", Due.ARITHMETIC, x -> x.deposit(2, 1));
        refused("subscribe", Due.INDEX, x -> x.subscribe(3, 1));
        refused("subscribe, range", Due.ARGUMENT, x -> x.subscribe(0, 0));
        refused("subscribe, range", Due.ARGUMENT, x -> x.subscribe(0, 13));
        refused("buy, customer", Due.INDEX, x -> x.buy(3, 1));
        refused("buy, issue", Due.INDEX, x -> x.buy(2, 5));
        refused("buy, recalled", Due.UNSUPPORTED, x -> x.buy(2, 0));
        refused("buy, made up", Due.UNSUPPORTED, x -> x.buy(2, 2));
        refused("buy, had", Due.UNSUPPORTED, x -> x.buy(0, 1));
        refused("buy, too few", Due.UNSUPPORTED, x -> x.buy(1, 1));
        refused("credits", Due.INDEX, x -> x.credits(3));
        refused("has, customer", Due.INDEX, x -> x.has(3, 1));
        refused("has, issue", Due.INDEX, x -> x.has(0, 5));
    }

    // ---- several at once

    private static void firstOfSeveral() {
        refused("clue, riddle, kind", Due.INDEX, x -> x.clue(12, 'q', 9, 9, 9));
        refused("clue, kind, proof", Due.ARGUMENT, x -> x.clue(0, 'q', 0, 1, 0));
        refused("clue, same, 8", Due.ARGUMENT, x -> x.clue(7, 'b', 0, 0, 0));
        refused("clue, k, 8", Due.ARGUMENT, x -> x.clue(7, 'd', 0, 1, 0));
        RiddlePress y = press.made();
        y.prove(7);
        Due.is("clue, proof, 8", Due.UNSUPPORTED, () -> y.clue(7, 'p', 0, 0, 0));
        refused("answer, person, none", Due.INDEX, x -> x.answer(7, 3));
        refused("answer, riddle, person", Due.INDEX, x -> x.answer(12, 3));
        refused("ruleAt, riddle, step", Due.INDEX, x -> x.ruleAt(12, -1));
        refused("causeAt, riddle, step", Due.INDEX, x -> x.causeAt(-1, -1));
        refused("takenAt, riddle, step", Due.INDEX, x -> x.takenAt(MOST, MOST));
        refused("leansOn, both", Due.INDEX, x -> x.leansOn(12, 13));
        refused("put, issue, state", Due.INDEX, x -> x.put(5, 1));
        refused("put, riddle, state", Due.INDEX, x -> x.put(1, 12));
        refused("put, riddle, full", Due.INDEX, x -> x.put(3, 12));
        refused("put, state, full", Due.UNSUPPORTED, x -> x.put(3, 5));
        refused("put, in it, full", Due.UNSUPPORTED, x -> x.put(3, 8));
        refused("publish, issue, price", Due.INDEX, x -> x.publish(5, 1001));
        refused("publish, price, recalled", Due.ARGUMENT, x -> x.publish(0, 1001));
        refused("publish, price, on sale", Due.ARGUMENT, x -> x.publish(1, -1));
        refused("publish, price, empty", Due.ARGUMENT, x -> x.publish(4, 1001));
        refused("deposit, customer, range", Due.INDEX, x -> x.deposit(3, 0));
        refused("deposit, range, too much", Due.ARGUMENT, x -> x.deposit(2, 2000000001));
        refused("subscribe, customer, range", Due.INDEX, x -> x.subscribe(3, 13));
        refused("buy, customer, recalled", Due.INDEX, x -> x.buy(3, 0));
        refused("buy, issue, had none", Due.INDEX, x -> x.buy(1, 5));
        refused("has, both", Due.INDEX, x -> x.has(3, 5));
    }

    private static void crowdedCalls() {
        refused("riddle, 20", Due.STATE, x -> x.riddle(3));
        refused("riddle, range, 20", Due.ARGUMENT, x -> x.riddle(7));
        refused("rule, 6", Due.STATE, x -> x.rule('b', 'a', true, 1));
        refused("rule, kind, 6", Due.ARGUMENT, x -> x.rule('x', 'a', true, 1));
        refused("rule, person, 6", Due.ARGUMENT, x -> x.rule('l', 'c', true, 1));
        refused("rule, k, 6", Due.ARGUMENT, x -> x.rule('b', 'a', true, 0));
        refused("issue, 12", Due.STATE, RiddlePress::issue);
        refused("customer, 8", Due.STATE, RiddlePress::customer);
        refused("put, open", Due.UNSUPPORTED, x -> x.put(11, 19));
        refused("publish, empty", Due.UNSUPPORTED, x -> x.publish(11, 0));
        refused("buy, made up", Due.UNSUPPORTED, x -> x.buy(7, 11));
        refused("meanSteps, none", Due.ARITHMETIC, RiddlePress::meanSteps);
    }

    private static void emptyCalls() {
        refused("provedShare", Due.ARITHMETIC, RiddlePress::provedShare);
        refused("meanSteps", Due.ARITHMETIC, RiddlePress::meanSteps);
        refused("clue", Due.INDEX, x -> x.clue(0, 'p', 0, 0, 0));
        refused("answers", Due.INDEX, x -> x.answers(0));
        refused("answer", Due.INDEX, x -> x.answer(0, 0));
        refused("prove", Due.INDEX, x -> x.prove(0));
        refused("steps", Due.INDEX, x -> x.steps(0));
        refused("ruleAt", Due.INDEX, x -> x.ruleAt(0, 0));
        refused("causeAt", Due.INDEX, x -> x.causeAt(0, 0));
        refused("takenAt", Due.INDEX, x -> x.takenAt(0, 0));
        refused("leansOn", Due.INDEX, x -> x.leansOn(0, 0));
        refused("state", Due.INDEX, x -> x.state(0));
        refused("stands", Due.INDEX, x -> x.stands(10));
        refused("counterexample", Due.INDEX, x -> x.counterexample(10));
        refused("fall", Due.INDEX, x -> x.fall(10));
        refused("put", Due.INDEX, x -> x.put(0, 0));
        refused("publish", Due.INDEX, x -> x.publish(0, 0));
        refused("issueState", Due.INDEX, x -> x.issueState(0));
        refused("indexed", Due.INDEX, x -> x.indexed(10));
        refused("deposit", Due.INDEX, x -> x.deposit(0, 1));
        refused("subscribe", Due.INDEX, x -> x.subscribe(0, 1));
        refused("buy", Due.INDEX, x -> x.buy(0, 0));
        refused("credits", Due.INDEX, x -> x.credits(0));
        refused("has", Due.INDEX, x -> x.has(0, 0));
    }
}
