/**
 * The limits of recalls ("Terms", "Press", when a rule falls; promises 16, 26 and 28): a test for
 * each sentence of the document that names one.
 */
public final class RecallEdgesTest {
    private static final int MOST = Integer.MAX_VALUE;

    public static void main(String[] args) {
        oneRiddleOfFour();
        onlyIssuesOnSale();
        recalledOnce();
        whoeverHasIt();
        priceOfEachIssue();
        creditsJustAsMany();
        creditsOneTooMany();
        creditsFull();
        creditsFullByTheFirstOfTwo();
        provedAnewWhole();
        provedAnewNotWhole();
        provedAnewFailed();
        provedWithTheRulesThatStand();
        notLeaningComeBack();
        othersOfEachState();
        othersWithoutTheRule();
        takenOutOfIssues();
        onSaleAgain();
        fallsOneByOne();
        Due.end();
    }

    private static void states(RiddlePress x, String due) {
        for (int i = 0; i < due.length(); i++) {
            int riddle = i;
            Due.is("riddle " + i + " of " + due, due.charAt(i), () -> x.state(riddle));
        }
    }

    private static void issueStates(RiddlePress x, String due) {
        for (int i = 0; i < due.length(); i++) {
            int issue = i;
            Due.is("issue " + i + " of " + due, due.charAt(i), () -> x.issueState(issue));
        }
    }

    private static void credits(RiddlePress x, long press, int... due) {
        for (int i = 0; i < due.length; i++) {
            int customer = i;
            Due.is("credits of " + i, due[i], () -> x.credits(customer));
        }
        Due.is("press", press, x::press);
    }

    private static void customers(RiddlePress x, int... credits) {
        for (int customer = 0; customer < credits.length; customer++) {
            x.customer();
            x.deposit(customer, credits[customer]);
        }
    }

    // ---- which issues are recalled

    private static void oneRiddleOfFour() {
        Due.says("all issues on sale with a riddle whose proof leans on it");
        for (int leaning = -1; leaning < 4; leaning++) {
            RiddlePress x = new RiddlePress();
            Told.falseRule(x);
            for (int riddle = 0; riddle < 4; riddle++) {
                if (riddle == leaning) {
                    Told.weak(x);
                } else {
                    Told.chain(x);
                }
            }
            Told.issue(x, 3, 1, 0, 2);
            x.publish(0, 1);
            Due.is("leaning " + leaning, leaning < 0 ? 0 : 1, () -> x.fall(10));
            issueStates(x, leaning < 0 ? "s" : "r");
            for (int riddle = 0; riddle < 4; riddle++) {
                int asked = riddle;
                char due = leaning < 0 ? 's' : riddle == leaning ? 'h' : 'b';
                Due.is("leaning " + leaning + ", " + riddle, due, () -> x.state(asked));
            }
        }
    }

    private static void onlyIssuesOnSale() {
        Due.says("all issues on sale");
        RiddlePress x = new RiddlePress();
        Told.falseRule(x);
        Told.issue(x, Told.weak(x));
        Told.issue(x, Told.weak(x));
        Told.issue(x);
        x.publish(1, 1);
        Due.is("not one that is made up", 1, () -> x.fall(10));
        issueStates(x, "mrm");
        states(x, "oh");
    }

    private static void recalledOnce() {
        Due.says("all issues on sale");
        RiddlePress x = new RiddlePress();
        Told.falseRule(x);
        Told.falseRule(x);
        Told.issue(x, Told.weak(x));
        customers(x, 10);
        x.publish(0, 4);
        x.buy(0, 0);
        Due.is("recalled", 1, () -> x.fall(10));
        Due.is("its riddle leans on the next one", true, () -> x.leansOn(0, 11));
        Due.is("not one that is recalled", 0, () -> x.fall(11));
        issueStates(x, "r");
        credits(x, 0, 10);
    }

    // ---- what is paid

    private static void whoeverHasIt() {
        Due.says("whoever has it gets its price back from the press");
        RiddlePress x = new RiddlePress();
        Told.falseRule(x);
        Told.issue(x, Told.weak(x));
        customers(x, 100, 100, 39, 100, 41);
        x.subscribe(0, 1);
        x.subscribe(2, 1);
        x.publish(0, 40);
        x.buy(1, 0);
        x.buy(4, 0);
        credits(x, 120, 60, 60, 39, 100, 1);
        x.fall(10);
        credits(x, 0, 100, 100, 39, 100, 41);
        Due.is("the subscribed one is gone", 1, () -> x.subscribe(0, 1));
        Due.is("this one is left", 2, () -> x.subscribe(2, 1));
        RiddlePress y = new RiddlePress();
        Told.falseRule(y);
        Told.issue(y, Told.weak(y));
        customers(y, 7);
        y.publish(0, 0);
        y.buy(0, 0);
        y.fall(10);
        credits(y, 0, 7);
    }

    private static void priceOfEachIssue() {
        Due.says("are recalled, by numbers: whoever has it gets its price back");
        RiddlePress x = new RiddlePress();
        Told.falseRule(x);
        int[] prices = {1000, 0, 1, 500};
        for (int issue = 0; issue < 4; issue++) {
            Told.issue(x, issue == 3 ? Told.chain(x) : Told.weak(x));
            x.publish(issue, prices[issue]);
        }
        customers(x, 2000, 2000, 2000);
        for (int issue = 0; issue < 4; issue++) {
            x.buy(0, issue);
        }
        x.buy(1, 2);
        x.buy(2, 3);
        credits(x, 2002, 499, 1999, 1500);
        Due.is("three of four", 3, () -> x.fall(10));
        credits(x, 1000, 1500, 2000, 1500);
    }

    /** A customer who bought an issue for 1000 and has so many credits then; the rule falls. */
    private static RiddlePress paidBack(int credits) {
        RiddlePress x = new RiddlePress();
        Told.falseRule(x);
        Told.issue(x, Told.weak(x));
        x.publish(0, 1000);
        customers(x, 1000, 1000);
        x.buy(0, 0);
        x.deposit(0, 2000000000);
        x.deposit(0, credits - 2000000000);
        x.buy(1, 0);
        credits(x, 2000, credits, 0);
        x.fall(10);
        return x;
    }

    private static void creditsJustAsMany() {
        Due.says("Credits that would be more than 2147483647 by this are 2147483647");
        credits(paidBack(MOST - 1001), 0, MOST - 1, 1000);
        credits(paidBack(MOST - 1000), 0, MOST, 1000);
    }

    private static void creditsOneTooMany() {
        Due.says("the rest being lost, though the press pays it");
        credits(paidBack(MOST - 999), 0, MOST, 1000);
        credits(paidBack(MOST - 1), 0, MOST, 1000);
    }

    private static void creditsFull() {
        Due.says("Credits that would be more than 2147483647 by this are 2147483647");
        RiddlePress x = paidBack(MOST);
        credits(x, 0, MOST, 1000);
        Due.is("no more", Due.ARITHMETIC, () -> x.deposit(0, 1));
    }

    private static void creditsFullByTheFirstOfTwo() {
        Due.says("Credits that would be more than 2147483647 by this are 2147483647");
        RiddlePress x = new RiddlePress();
        Told.falseRule(x);
        Told.issue(x, Told.weak(x));
        Told.issue(x, Told.weak(x));
        x.publish(0, 600);
        x.publish(1, 700);
        customers(x, 1300);
        x.buy(0, 0);
        x.buy(0, 1);
        x.deposit(0, 2000000000);
        x.deposit(0, 147483647 - 1000);
        credits(x, 1300, MOST - 1000);
        Due.is("both", 2, () -> x.fall(10));
        credits(x, 0, MOST);
    }

    // ---- what comes of the riddles

    private static RiddlePress onSale(String... rules) {
        RiddlePress x = new RiddlePress();
        Told.falseRule(x);
        Told.issue(x, Told.weak(x));
        x.publish(0, 1);
        for (String rule : rules) {
            Told.rule(x, rule);
        }
        return x;
    }

    private static void steps(RiddlePress x, String due) {
        Due.is("steps " + due, due, () -> Told.steps(x, 0));
    }

    private static void provedAnewWhole() {
        Due.says("those whose proof is whole come back");
        RiddlePress x = onSale("baf1");
        steps(x, "2:0:2 10:0:1 2:0:1 7:0:1 7:1:1 ");
        x.fall(10);
        states(x, "b");
        steps(x, "2:0:2 11:0:1 2:0:1 7:0:1 7:1:1 ");
        Due.is("no clue", Due.UNSUPPORTED, () -> x.clue(0, 'x', 2, 1, 0));
    }

    private static void provedAnewNotWhole() {
        Due.says("others are held");
        RiddlePress x = onSale();
        x.fall(10);
        states(x, "h");
        steps(x, "2:0:2 ");
        Due.is("not without a proof", Due.UNSUPPORTED, () -> x.clue(0, 'x', 2, 1, 0));
        Due.is("not into an issue", Due.UNSUPPORTED, () -> x.put(x.issue(), 0));
    }

    private static void provedAnewFailed() {
        Due.says("others are held");
        RiddlePress x = onSale("baf5");
        x.fall(10);
        states(x, "h");
        steps(x, "2:0:2 11:0:2 ");
        Due.is("failed again", 'f', () -> x.prove(0));
        states(x, "h");
        x.fall(11);
        states(x, "o");
        Due.is("no proof", Due.NO_ELEMENT, () -> x.steps(0));
    }

    private static void provedWithTheRulesThatStand() {
        Due.says("are proved anew, with the rules that stand");
        RiddlePress x = onSale("baf1", "baf1");
        x.fall(11);
        states(x, "s");
        x.fall(10);
        states(x, "b");
        steps(x, "2:0:2 12:0:1 2:0:1 7:0:1 7:1:1 ");
        for (int rule = 10; rule < 13; rule++) {
            int own = rule;
            Due.is("leans on " + rule, rule == 12, () -> x.leansOn(0, own));
        }
    }

    private static void notLeaningComeBack() {
        Due.says("Riddles of it that do not lean on it come back, too");
        RiddlePress x = new RiddlePress();
        Told.falseRule(x);
        Told.rule(x, "nal1");
        Told.riddle(x, 3, "l20", "n12");
        Due.is("leans on the other one", 'w', () -> x.prove(0));
        Told.issue(x, 0, Told.weak(x), Told.chain(x));
        x.publish(0, 1);
        Told.rule(x, "lbf5");
        x.fall(10);
        states(x, "bhb");
        Due.is("its proof as it was", true, () -> x.leansOn(0, 11));
        Due.is("its proof as it was", "4:0:2 4:1:3 4:0:1 ", () -> Told.steps(x, 2));
    }

    /** After a first fall, riddles of all states, of which 0 to 5 lean on the rule 11. */
    private static RiddlePress riddlesOfEachState() {
        RiddlePress x = new RiddlePress();
        Told.falseRule(x);
        Told.weak(x);
        Told.riddle(x, 3, "b01", "n02");
        Due.is("whole by the rule 10", 'w', () -> x.prove(1));
        Told.issue(x, 0, 1);
        x.publish(0, 1);
        Told.falseRule(x);
        Told.rule(x, "naf5");
        Due.is("recalled", 1, () -> x.fall(10));
        Told.weak(x);
        Told.issue(x, Told.weak(x));
        Told.riddle(x, 4, "b01");
        Due.is("not whole", 'n', () -> x.prove(4));
        Told.riddle(x, 3, "b01", "n12");
        Due.is("failed", 'f', () -> x.prove(5));
        Told.chain(x);
        x.put(1, Told.chain(x));
        Told.riddle(x, 3);
        Told.issue(x, Told.chain(x));
        x.publish(2, 1);
        states(x, "bhwioowios");
        for (int riddle = 0; riddle < 10; riddle++) {
            int asked = riddle;
            Due.is("leans on 11, " + riddle, riddle < 6, () -> x.leansOn(asked, 11));
        }
        return x;
    }

    private static void othersOfEachState() {
        Due.says("All other riddles that are not on sale, held ones and those that come back "
                + "included, and whose proof leans on the rule, whole or not, lose it, are open");
        RiddlePress x = riddlesOfEachState();
        Due.is("no issue on sale", 0, () -> x.fall(11));
        states(x, "oooooowios");
        for (int riddle = 0; riddle < 6; riddle++) {
            int asked = riddle;
            Due.is("no proof, " + riddle, Due.NO_ELEMENT, () -> x.steps(asked));
            Due.is("leans on nothing, " + riddle, false, () -> x.leansOn(asked, 2));
            int clues = riddle == 1 || riddle == 5 ? 3 : 2;
            Due.is("a clue, " + riddle, clues, () -> x.clue(asked, 'x', 2, 2, 0));
        }
        issueStates(x, "rms");
        Due.is("one was taken out", 2, () -> x.put(1, 6));
    }

    private static void othersWithoutTheRule() {
        Due.says("and whose proof leans on the rule");
        RiddlePress x = new RiddlePress();
        Told.falseRule(x);
        Told.issue(x, Told.weak(x), Told.chain(x));
        x.publish(0, 1);
        Told.rule(x, "naf1");
        x.fall(10);
        Told.riddle(x, 3, "x00");
        Told.riddle(x, 3, "p00", "p01");
        x.prove(2);
        x.prove(3);
        Told.chain(x);
        Told.issue(x, Told.chain(x));
        Told.issue(x, Told.chain(x));
        x.publish(2, 1);
        states(x, "hboowis");
        Due.is("no riddle leans on it", 0, () -> x.fall(11));
        states(x, "hboowis");
        issueStates(x, "rms");
        int[] steps = {1, 3, 1, 2, 3, 3, 3};
        for (int riddle = 0; riddle < 7; riddle++) {
            int asked = riddle;
            Due.is("its proof, " + riddle, steps[riddle], () -> x.steps(asked));
        }
    }

    private static void takenOutOfIssues() {
        Due.says("and are taken out of issues that are made up");
        RiddlePress x = new RiddlePress();
        Told.falseRule(x);
        Told.issue(x, Told.weak(x), Told.weak(x), Told.weak(x), Told.weak(x));
        Told.issue(x, Told.chain(x), Told.weak(x));
        Due.is("none on sale", 0, () -> x.fall(10));
        states(x, "ooooio");
        issueStates(x, "mm");
        Due.is("nothing left", Due.UNSUPPORTED, () -> x.publish(0, 1));
        Told.falseRule(x);
        for (int riddle = 0; riddle < 4; riddle++) {
            int again = riddle;
            Due.is("proved again", 'w', () -> x.prove(again));
            Due.is("put again", riddle + 1, () -> x.put(0, again));
        }
        Due.is("the other one has one", 2, () -> x.put(1, Told.weak(x)));
    }

    private static void onSaleAgain() {
        Due.says("those whose proof is whole come back");
        RiddlePress x = onSale("baf1");
        customers(x, 100);
        x.buy(0, 0);
        x.fall(10);
        Told.issue(x, 0);
        Due.is("not had", false, () -> x.has(0, 1));
        x.publish(1, 30);
        Due.is("not had", false, () -> x.has(0, 1));
        Due.is("bought again", 70, () -> x.buy(0, 1));
        Due.is("the first one is had", true, () -> x.has(0, 0));
        Due.is("recalled again", 1, () -> x.fall(11));
        credits(x, 0, 100);
        issueStates(x, "rr");
        states(x, "h");
    }

    private static void fallsOneByOne() {
        Due.says("those whose proof is whole come back");
        RiddlePress x = onSale("baf1", "baf1", "baf1", "baf1", "baf1");
        for (int rule = 10; rule < 16; rule++) {
            int falling = rule;
            Due.is("leans on " + rule, true, () -> x.leansOn(0, falling));
            Due.is("falls, " + rule, 1, () -> x.fall(falling));
            states(x, rule < 15 ? "b" : "h");
            if (rule < 15) {
                Told.issue(x, 0);
                x.publish(rule - 9, 0);
            }
        }
        issueStates(x, "rrrrrr");
    }
}
