/**
 * The limits of issues ("Terms", "Press"; promises 17 to 21): a test for each sentence of the
 * document that names one.
 */
public final class IssueEdgesTest {
    private static final int MOST = Integer.MAX_VALUE;
    private static final int LEAST = Integer.MIN_VALUE;

    public static void main(String[] args) {
        mostIssues();
        mostRiddlesOfAnIssue();
        roomAgain();
        issueStates();
        issueStateNoSuchIssue();
        putOfEachState();
        putOfARiddleThatComesBack();
        putIntoEachState();
        putNoSuchIssueOrRiddle();
        putExceptionsInOrder();
        publishRangeOfPrice();
        publishNoSuchIssue();
        publishNotMadeUp();
        publishWithoutRiddles();
        publishPutsOnSale();
        indexed();
        indexedOfEachRule();
        indexedNoSuchRule();
        Due.end();
    }

    private static void states(RiddlePress x, String due) {
        for (int i = 0; i < due.length(); i++) {
            int riddle = i;
            Due.is("riddle " + i + " of " + due, due.charAt(i), () -> x.state(riddle));
        }
    }

    private static void issueStates(RiddlePress x, String due) {
        for (int i = 0; i < due.length(); i++) {
            int issue = i;
            Due.is("issue " + i + " of " + due, due.charAt(i), () -> x.issueState(issue));
        }
    }

    // ---- promise 17

    private static void mostIssues() {
        Due.says("At most 12 issues have numbers from 0 on");
        RiddlePress x = new RiddlePress();
        for (int issue = 0; issue < 12; issue++) {
            int number = issue;
            Due.is("not yet there", Due.INDEX, () -> x.issueState(number));
            Due.is("its number", number, x::issue);
            Due.is("there", 'm', () -> x.issueState(number));
        }
        Due.says("Throws `IllegalStateException` if there are 12 issues");
        Due.is("a 13th", Due.STATE, x::issue);
        Due.is("it is not there", Due.INDEX, () -> x.issueState(12));
        Told.falseRule(x);
        x.put(0, Told.weak(x));
        x.put(1, Told.chain(x));
        x.publish(0, 1);
        x.publish(1, 1);
        Due.is("a 13th, one on sale", Due.STATE, x::issue);
        x.fall(10);
        Due.is("a 13th, one recalled", Due.STATE, x::issue);
    }

    // ---- promise 18

    private static void mostRiddlesOfAnIssue() {
        Due.says("each with at most 4 riddles");
        RiddlePress x = new RiddlePress();
        for (int riddle = 0; riddle < 10; riddle++) {
            Told.chain(x);
        }
        x.issue();
        x.issue();
        for (int count = 1; count <= 4; count++) {
            int riddles = count;
            Due.is("of the first issue", riddles, () -> x.put(0, riddles - 1));
            Due.is("of the second issue", riddles, () -> x.put(1, riddles + 3));
        }
        Due.says("Throws `IllegalStateException` if the issue has 4");
        Due.is("a fifth", Due.STATE, () -> x.put(0, 8));
        Due.is("a fifth of the second", Due.STATE, () -> x.put(1, 9));
        states(x, "iiiiiiiiww");
        Due.is("into a third", 1, () -> x.put(x.issue(), 8));
    }

    private static void roomAgain() {
        Due.says("and are taken out of issues that are made up");
        RiddlePress x = new RiddlePress();
        Told.falseRule(x);
        Told.issue(x, Told.chain(x), Told.weak(x), Told.weak(x), Told.chain(x));
        Told.chain(x);
        Told.chain(x);
        Told.chain(x);
        Due.is("full", Due.STATE, () -> x.put(0, 4));
        x.fall(10);
        states(x, "iooiwww");
        Due.is("the third", 3, () -> x.put(0, 4));
        Due.is("the fourth", 4, () -> x.put(0, 5));
        Due.is("full again", Due.STATE, () -> x.put(0, 6));
    }

    // ---- promise 20

    private static void issueStates() {
        Due.says("an issue is made up, then on sale, and perhaps recalled");
        RiddlePress x = new RiddlePress();
        Told.falseRule(x);
        Told.issue(x, Told.weak(x));
        Told.issue(x, Told.chain(x));
        Told.issue(x);
        issueStates(x, "mmm");
        x.publish(0, 1);
        x.publish(1, 1);
        issueStates(x, "ssm");
        x.fall(10);
        issueStates(x, "rsm");
    }

    private static void issueStateNoSuchIssue() {
        Due.says("issueState: Throws `IndexOutOfBoundsException` if there is no such issue");
        RiddlePress x = new RiddlePress();
        Due.is("of none", Due.INDEX, () -> x.issueState(0));
        for (int issue = 0; issue < 12; issue++) {
            x.issue();
        }
        for (int issue : new int[] {-1, 12, MOST, LEAST}) {
            Due.is("of 12, " + issue, Due.INDEX, () -> x.issueState(issue));
        }
        Due.is("the last one", 'm', () -> x.issueState(11));
    }

    // ---- promise 18, what may be put where

    private static void putOfEachState() {
        Due.says("or the riddle is in another state");
        RiddlePress x = new RiddlePress();
        Told.falseRule(x);
        Told.issue(x, Told.weak(x));
        x.publish(0, 1);
        x.fall(10);
        Told.riddle(x, 3);
        Told.riddle(x, 3, "x00");
        Told.riddle(x, 3, "p00", "p01");
        x.prove(2);
        x.prove(3);
        Told.issue(x, Told.chain(x));
        Told.issue(x, Told.chain(x));
        x.publish(2, 1);
        x.issue();
        states(x, "hoooi" + "s");
        for (int riddle = 0; riddle < 6; riddle++) {
            int number = riddle;
            Due.is("riddle " + riddle, Due.UNSUPPORTED, () -> x.put(3, number));
            Due.is("to the other one, " + riddle, Due.UNSUPPORTED, () -> x.put(1, number));
        }
        Due.is("proved whole", 1, () -> x.put(3, Told.chain(x)));
    }

    private static void putOfARiddleThatComesBack() {
        Due.says("Puts a riddle that is proved whole, or comes back, into an issue");
        RiddlePress x = new RiddlePress();
        Told.falseRule(x);
        Told.falseRule(x);
        Told.issue(x, Told.chain(x), Told.weak(x));
        x.publish(0, 1);
        x.fall(10);
        states(x, "bb");
        x.issue();
        Due.is("that did not lean", 1, () -> x.put(1, 0));
        Due.is("that is proved anew", 2, () -> x.put(1, 1));
        states(x, "ii");
        Due.is("it is there", Due.UNSUPPORTED, () -> x.put(1, 0));
        Due.is("on sale", 0, () -> x.publish(1, 1000));
        states(x, "ss");
        Due.is("the first one is recalled yet", 'r', () -> x.issueState(0));
    }

    private static void putIntoEachState() {
        Due.says("Throws `UnsupportedOperationException` if the issue is not made up any more");
        RiddlePress x = new RiddlePress();
        Told.falseRule(x);
        Told.issue(x, Told.weak(x));
        Told.issue(x, Told.chain(x));
        x.publish(0, 1);
        x.publish(1, 1);
        Told.chain(x);
        Due.is("on sale", Due.UNSUPPORTED, () -> x.put(1, 2));
        x.fall(10);
        Due.is("recalled, and empty", Due.UNSUPPORTED, () -> x.put(0, 2));
        states(x, "hsw");
    }

    private static void putNoSuchIssueOrRiddle() {
        Due.says("put: Throws `IndexOutOfBoundsException` if there is no such issue or riddle");
        RiddlePress none = new RiddlePress();
        Due.is("neither", Due.INDEX, () -> none.put(0, 0));
        RiddlePress x = new RiddlePress();
        Told.chain(x);
        Told.riddle(x, 3);
        x.issue();
        Told.issue(x, Told.chain(x));
        x.publish(1, 1);
        for (int wrong : new int[] {-1, 3, 12, 20, MOST, LEAST}) {
            Due.is("issue " + wrong, Due.INDEX, () -> x.put(wrong, 0));
            Due.is("riddle " + wrong, Due.INDEX, () -> x.put(0, wrong));
            Due.is("both " + wrong, Due.INDEX, () -> x.put(wrong, wrong));
            Due.is("issue, the riddle open, " + wrong, Due.INDEX, () -> x.put(wrong, 1));
            Due.is("riddle, the issue on sale, " + wrong, Due.INDEX, () -> x.put(1, wrong));
        }
        Due.is("both are there", 1, () -> x.put(0, 0));
    }

    private static void putExceptionsInOrder() {
        Due.says("If several exceptions apply, the one that is documented first is thrown");
        RiddlePress x = new RiddlePress();
        Told.issue(x, Told.chain(x), Told.chain(x), Told.chain(x), Told.chain(x));
        Told.riddle(x, 3);
        Told.chain(x);
        Due.is("full, the riddle open", Due.UNSUPPORTED, () -> x.put(0, 4));
        Due.is("full, the riddle in it", Due.UNSUPPORTED, () -> x.put(0, 3));
        Due.is("full", Due.STATE, () -> x.put(0, 5));
        x.publish(0, 1);
        Due.is("on sale with 4", Due.UNSUPPORTED, () -> x.put(0, 5));
    }

    // ---- promise 19

    private static void publishRangeOfPrice() {
        Due.says("Throws `IllegalArgumentException` if the price is out of range");
        for (int price : new int[] {-1, 1001, 1000000, MOST, LEAST}) {
            RiddlePress x = new RiddlePress();
            Told.issue(x, Told.chain(x));
            x.issue();
            Due.is("price " + price, Due.ARGUMENT, () -> x.publish(0, price));
            Due.is("without riddles, " + price, Due.ARGUMENT, () -> x.publish(1, price));
            Due.is("made up yet", 'm', () -> x.issueState(0));
            x.publish(0, 0);
            Due.is("on sale, " + price, Due.ARGUMENT, () -> x.publish(0, price));
        }
        for (int price : new int[] {0, 1, 999, 1000}) {
            RiddlePress x = new RiddlePress();
            Told.issue(x, Told.chain(x));
            x.customer();
            x.deposit(0, 1000);
            Due.is("price " + price, 0, () -> x.publish(0, price));
            Due.is("it is the price", 1000 - price, () -> x.buy(0, 0));
            Due.is("the press has it", (long) price, x::press);
        }
    }

    private static void publishNoSuchIssue() {
        Due.says("publish: Throws `IndexOutOfBoundsException` if there is no such issue");
        RiddlePress x = new RiddlePress();
        Due.is("of none", Due.INDEX, () -> x.publish(0, 1));
        Told.issue(x, Told.chain(x));
        for (int issue : new int[] {-1, 1, 12, MOST, LEAST}) {
            Due.is("issue " + issue, Due.INDEX, () -> x.publish(issue, 1));
            Due.is("and no price, " + issue, Due.INDEX, () -> x.publish(issue, -1));
        }
    }

    private static void publishNotMadeUp() {
        Due.says("Throws `UnsupportedOperationException` if it is not made up any more");
        RiddlePress x = new RiddlePress();
        Told.falseRule(x);
        Told.issue(x, Told.weak(x), Told.chain(x));
        Due.is("made up", 0, () -> x.publish(0, 1));
        Due.is("on sale", Due.UNSUPPORTED, () -> x.publish(0, 1));
        x.fall(10);
        Due.is("recalled", Due.UNSUPPORTED, () -> x.publish(0, 1));
        states(x, "hb");
    }

    private static void publishWithoutRiddles() {
        Due.says("or has no riddles");
        RiddlePress x = new RiddlePress();
        Told.falseRule(x);
        x.issue();
        Told.issue(x, Told.weak(x));
        Due.is("never one", Due.UNSUPPORTED, () -> x.publish(0, 1));
        x.fall(10);
        Due.is("taken out", Due.UNSUPPORTED, () -> x.publish(1, 1));
        x.put(1, Told.chain(x));
        Due.is("one", 0, () -> x.publish(1, 1));
        Due.is("the other one has none yet", Due.UNSUPPORTED, () -> x.publish(0, 1));
    }

    private static void publishPutsOnSale() {
        Due.says("Puts an issue on sale");
        RiddlePress x = new RiddlePress();
        Told.issue(x, Told.chain(x), Told.chain(x), Told.chain(x), Told.chain(x));
        Told.issue(x, Told.chain(x));
        Told.chain(x);
        x.publish(0, 1);
        issueStates(x, "sm");
        states(x, "ssssiw");
    }

    // ---- promise 21

    private static void indexed() {
        Due.says("Returns how many issues on sale lean on a rule");
        RiddlePress x = new RiddlePress();
        Told.falseRule(x);
        Told.issue(x, Told.chain(x), Told.chain(x), Told.weak(x));
        Told.weak(x);
        Due.is("made up", 0, () -> x.indexed(4));
        x.publish(0, 1);
        Due.is("an issue with two riddles", 1, () -> x.indexed(4));
        Due.is("one that is in no issue", 1, () -> x.indexed(10));
        for (int issue = 1; issue < 12; issue++) {
            Told.issue(x, Told.chain(x));
            x.publish(issue, 1);
        }
        Due.is("all twelve", 12, () -> x.indexed(4));
        Due.is("one of twelve", 1, () -> x.indexed(2));
        Due.is("none of twelve", 0, () -> x.indexed(0));
        x.fall(10);
        Due.is("one recalled", 11, () -> x.indexed(4));
        Due.is("the fallen one", 0, () -> x.indexed(10));
        Due.is("one of the recalled issue", 0, () -> x.indexed(2));
    }

    private static void indexedOfEachRule() {
        Due.says("Returns how many issues on sale lean on a rule");
        RiddlePress x = new RiddlePress();
        for (int i = 0; i < 5; i++) {
            Told.rule(x, "mcf1");
        }
        Told.rule(x, "baf1");
        Told.riddle(x, 3, "p00", "p11");
        Told.riddle(x, 3, "x00", "x01", "x10");
        Told.riddle(x, 3, "p00", "b12");
        Told.riddle(x, 3, "p00", "n01");
        Told.riddle(x, 3, "l01", "l12");
        Told.riddle(x, 3, "p00", "d012");
        Told.riddle(x, 4, "p00", "p12", "m012");
        Told.riddle(x, 3, "x01", "x11", "p00");
        Told.riddle(x, 4, "x00", "x10", "x20", "n30", "x12");
        Told.riddle(x, 5, "d424", "l10", "n21");
        Told.weak(x);
        for (int riddle = 0; riddle < 11; riddle++) {
            int number = riddle;
            Due.is("whole, " + riddle, 'w', () -> x.prove(number));
            Told.issue(x, riddle);
            x.publish(riddle, 0);
        }
        int[] due = {6, 3, 2, 3, 2, 2, 1, 10, 1, 1, 0, 0, 0, 0, 0, 1};
        for (int rule = 0; rule < 16; rule++) {
            int asked = rule;
            Due.is("rule " + rule, due[rule], () -> x.indexed(asked));
        }
    }

    private static void indexedNoSuchRule() {
        Due.says("indexed: Throws `IndexOutOfBoundsException` if there is no such rule");
        RiddlePress x = new RiddlePress();
        for (int own = 0; own <= 6; own++) {
            for (int rule : new int[] {-1, 10 + own, 16, 32, 42, MOST, LEAST}) {
                Due.is(own + " own ones, " + rule, Due.INDEX, () -> x.indexed(rule));
            }
            for (int rule = 0; rule < 10 + own; rule++) {
                int asked = rule;
                Due.is(own + " own ones, " + rule, 0, () -> x.indexed(asked));
            }
            if (own < 6) {
                Told.falseRule(x);
            }
        }
    }
}
