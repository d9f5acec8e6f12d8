/** Promises 19 and 22 to 28, and what recalls pay: customers, credits, sales. */
public final class CustomerTest {
    private static final int MOST = Integer.MAX_VALUE;

    public static void main(String[] args) {
        customer();
        deposit();
        subscribe();
        sellBySubscription();
        sellForNothing();
        buy();
        buyWrongInputs();
        has();
        payBack();
        payBackOfSeveral();
        payBackTooMuch();
        Due.end();
    }

    /** A press with customers, each with so many credits; an issue 0 is made up. */
    private static RiddlePress press(int... credits) {
        RiddlePress x = new RiddlePress();
        x.rule('b', 'a', true, 1);
        addIssue(x);
        for (int customer = 0; customer < credits.length; customer++) {
            x.customer();
            if (credits[customer] > 0) {
                x.deposit(customer, Math.min(credits[customer], 2000000000));
            }
        }
        return x;
    }

    /** An issue with one riddle that leans on the rule 10. */
    private static int addIssue(RiddlePress x) {
        int riddle = x.riddle(3);
        x.clue(riddle, 'b', 0, 1, 0);
        x.prove(riddle);
        int issue = x.issue();
        x.put(issue, riddle);
        return issue;
    }

    private static void credits(RiddlePress x, int... due) {
        for (int i = 0; i < due.length; i++) {
            int customer = i;
            Due.is("26: credits of " + i, due[i], () -> x.credits(customer));
        }
    }

    private static void inPress(RiddlePress x, long due) {
        Due.is("28: press", due, x::press);
    }

    private static void customer() {
        RiddlePress x = new RiddlePress();
        for (int i = 0; i < 8; i++) {
            int number = i;
            Due.is("22: number", number, x::customer);
            Due.is("26: no credits", 0, () -> x.credits(number));
        }
        Due.is("22: a ninth", Due.STATE, x::customer);
        Due.is("26: no customer 8", Due.INDEX, () -> x.credits(8));
        Due.is("26: no customer -1", Due.INDEX, () -> x.credits(-1));
    }

    private static void deposit() {
        RiddlePress x = press(0, 0);
        Due.is("23: one", 1, () -> x.deposit(0, 1));
        Due.is("23: more", 11, () -> x.deposit(0, 10));
        Due.is("23: of its own", 2000000000, () -> x.deposit(1, 2000000000));
        Due.is("23: one too many", Due.ARITHMETIC, () -> x.deposit(1, MOST - 2000000000 + 1));
        credits(x, 11, 2000000000);
        Due.is("23: as many as may be", MOST, () -> x.deposit(1, MOST - 2000000000));
        Due.is("23: full", Due.ARITHMETIC, () -> x.deposit(1, 1));
        for (int wrong : new int[] {0, -1, 2000000001, MOST, Integer.MIN_VALUE}) {
            Due.is("23: " + wrong, Due.ARGUMENT, () -> x.deposit(0, wrong));
            Due.is("23: full, " + wrong, Due.ARGUMENT, () -> x.deposit(1, wrong));
            Due.is("23: nobody, " + wrong, Due.INDEX, () -> x.deposit(2, wrong));
        }
        Due.is("23: no customer -1", Due.INDEX, () -> x.deposit(-1, 1));
        credits(x, 11, MOST);
        inPress(x, 0);
    }

    private static void subscribe() {
        RiddlePress x = press(0, 0);
        Due.is("24: one", 1, () -> x.subscribe(0, 1));
        Due.is("24: twelve more", 13, () -> x.subscribe(0, 12));
        Due.is("24: twelve again", 25, () -> x.subscribe(0, 12));
        Due.is("24: of its own", 2, () -> x.subscribe(1, 2));
        for (int wrong : new int[] {0, -1, 13, MOST, Integer.MIN_VALUE}) {
            Due.is("24: " + wrong, Due.ARGUMENT, () -> x.subscribe(0, wrong));
            Due.is("24: nobody, " + wrong, Due.INDEX, () -> x.subscribe(2, wrong));
        }
        Due.is("24: no customer -1", Due.INDEX, () -> x.subscribe(-1, 1));
        Due.is("24: nothing came of these", 26, () -> x.subscribe(0, 1));
    }

    private static void sellBySubscription() {
        RiddlePress x = press(100, 29, 30, 100);
        x.subscribe(0, 2);
        x.subscribe(1, 2);
        x.subscribe(2, 1);
        Due.is("19: two of them", 2, () -> x.publish(0, 30));
        credits(x, 70, 29, 0, 100);
        inPress(x, 60);
        boolean[] owners = {true, false, true, false};
        for (int i = 0; i < owners.length; i++) {
            int customer = i;
            Due.is("27: has " + i, owners[i], () -> x.has(customer, 0));
        }
        x.deposit(2, 100);
        addIssue(x);
        Due.is("19: no subscription left", 2, () -> x.publish(1, 1));
        credits(x, 69, 28, 100, 100);
        inPress(x, 62);
        Due.is("24: none left, one more", 1, () -> x.subscribe(0, 1));
        Due.is("24: one left, one more", 2, () -> x.subscribe(1, 1));
        Due.is("24: none was left", 1, () -> x.subscribe(2, 1));
    }

    private static void sellForNothing() {
        RiddlePress x = press(0, 0);
        x.subscribe(0, 1);
        Due.is("19: for nothing", 1, () -> x.publish(0, 0));
        Due.is("27: has it", true, () -> x.has(0, 0));
        Due.is("25: for nothing", 0, () -> x.buy(1, 0));
        Due.is("27: bought", true, () -> x.has(1, 0));
        inPress(x, 0);
    }

    private static void buy() {
        RiddlePress x = press(30, 29, 1000);
        Due.is("25: made up", Due.UNSUPPORTED, () -> x.buy(0, 0));
        x.publish(0, 30);
        Due.is("25: all of it", 0, () -> x.buy(0, 0));
        Due.is("25: too few", Due.UNSUPPORTED, () -> x.buy(1, 0));
        Due.is("25: enough", 970, () -> x.buy(2, 0));
        Due.is("25: has it", Due.UNSUPPORTED, () -> x.buy(2, 0));
        credits(x, 0, 29, 970);
        inPress(x, 60);
        x.deposit(1, 1);
        x.subscribe(1, 3);
        Due.is("25: now enough", 0, () -> x.buy(1, 0));
        Due.is("24: no subscribed one is used", 4, () -> x.subscribe(1, 1));
        x.fall(10);
        Due.is("25: recalled", Due.UNSUPPORTED, () -> x.buy(2, 0));
    }

    private static void buyWrongInputs() {
        RiddlePress x = press(30);
        x.publish(0, 30);
        for (int wrong : new int[] {-1, 1, 8, 12, MOST, Integer.MIN_VALUE}) {
            Due.is("25: customer " + wrong, Due.INDEX, () -> x.buy(wrong, 0));
            Due.is("25: issue " + wrong, Due.INDEX, () -> x.buy(0, wrong));
            Due.is("27: customer " + wrong, Due.INDEX, () -> x.has(wrong, 0));
            Due.is("27: issue " + wrong, Due.INDEX, () -> x.has(0, wrong));
        }
        credits(x, 30);
    }

    private static void has() {
        RiddlePress x = press(100, 100);
        addIssue(x);
        x.publish(0, 1);
        x.publish(1, 1);
        x.buy(0, 1);
        Due.is("27: not this issue", false, () -> x.has(0, 0));
        Due.is("27: this one", true, () -> x.has(0, 1));
        Due.is("27: another customer", false, () -> x.has(1, 1));
        x.fall(10);
        Due.is("27: recalled since", true, () -> x.has(0, 1));
        Due.is("27: never had", false, () -> x.has(0, 0));
    }

    private static void payBack() {
        RiddlePress x = press(100, 100, 100);
        x.subscribe(0, 1);
        x.publish(0, 40);
        x.buy(1, 0);
        inPress(x, 80);
        Due.is("16: recalled", 1, () -> x.fall(10));
        credits(x, 100, 100, 100);
        inPress(x, 0);
        Due.is("24: the subscribed one is gone", 1, () -> x.subscribe(0, 1));
    }

    private static void payBackOfSeveral() {
        RiddlePress x = press(100, 100, 100);
        addIssue(x);
        int riddle = x.riddle(3);
        x.clue(riddle, 'l', 0, 1, 0);
        x.clue(riddle, 'l', 1, 2, 0);
        x.prove(riddle);
        x.issue();
        x.put(2, riddle);
        x.publish(0, 10);
        x.publish(1, 20);
        x.publish(2, 50);
        x.buy(0, 0);
        x.buy(0, 1);
        x.buy(1, 1);
        x.buy(1, 2);
        credits(x, 70, 30, 100);
        inPress(x, 100);
        Due.is("16: two", 2, () -> x.fall(10));
        credits(x, 100, 50, 100);
        inPress(x, 50);
    }

    private static void payBackTooMuch() {
        RiddlePress x = press(2000000000, 2000000000);
        x.publish(0, 1000);
        x.buy(0, 0);
        x.buy(1, 0);
        x.deposit(0, MOST - 1999999000 - 999);
        x.deposit(1, MOST - 1999999000 - 1000);
        credits(x, MOST - 999, MOST - 1000);
        inPress(x, 2000);
        x.fall(10);
        credits(x, MOST, MOST);
        inPress(x, 0);
    }
}
