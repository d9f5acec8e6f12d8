/**
 * The limits of customers, credits and sales ("Terms", "Press"; promises 19 and 22 to 28): a test
 * for each sentence of the document that names one.
 */
public final class CustomerEdgesTest {
    private static final int MOST = Integer.MAX_VALUE;
    private static final int LEAST = Integer.MIN_VALUE;
    private static final int MOST_DEPOSIT = 2000000000;

    public static void main(String[] args) {
        mostCustomers();
        depositRange();
        depositTooMuch();
        depositNoSuchCustomer();
        subscribeRange();
        subscribeNoSuchCustomer();
        asManyCredits();
        subscribedIssuesLeft();
        soldForNothing();
        howManyGotIt();
        creditsGoToThePress();
        buyWithTooFewCredits();
        buyWhatIsHad();
        buyNotOnSale();
        buyAtNoPrice();
        buyNoSuchCustomerOrIssue();
        creditsNoSuchCustomer();
        hasOneThatWasRecalled();
        hasNoSuchCustomerOrIssue();
        pressOfTheMostSales();
        Due.end();
    }

    /** A press with customers, who have these credits, and issues of one riddle each. */
    private static RiddlePress press(int issues, int... credits) {
        RiddlePress x = new RiddlePress();
        Told.falseRule(x);
        for (int issue = 0; issue < issues; issue++) {
            Told.issue(x, Told.weak(x));
        }
        for (int customer = 0; customer < credits.length; customer++) {
            x.customer();
            if (credits[customer] > 0) {
                x.deposit(customer, credits[customer]);
            }
        }
        return x;
    }

    private static void credits(RiddlePress x, int... due) {
        for (int i = 0; i < due.length; i++) {
            int customer = i;
            Due.is("credits of " + i, due[i], () -> x.credits(customer));
        }
    }

    private static void owners(RiddlePress x, int issue, String due) {
        for (int i = 0; i < due.length(); i++) {
            int customer = i;
            Due.is("has " + i, due.charAt(i) == 'y', () -> x.has(customer, issue));
        }
    }

    /** Asks how many subscribed issues are left, by one more. */
    private static void left(RiddlePress x, int customer, int due) {
        Due.is("left of " + customer, due + 1, () -> x.subscribe(customer, 1));
    }

    // ---- customers

    private static void mostCustomers() {
        Due.says("At most 8 customers have numbers from 0 on");
        RiddlePress x = new RiddlePress();
        for (int customer = 0; customer < 8; customer++) {
            int number = customer;
            Due.is("not yet there", Due.INDEX, () -> x.credits(number));
            Due.is("its number", number, x::customer);
            Due.is("without credits", 0, () -> x.credits(number));
            Due.is("without issues", 1, () -> x.subscribe(number, 1));
        }
        Due.says("Throws `IllegalStateException` if there are 8 customers");
        Due.is("a ninth", Due.STATE, x::customer);
        Due.is("again", Due.STATE, x::customer);
        Due.is("it is not there", Due.INDEX, () -> x.credits(8));
    }

    private static void depositRange() {
        Due.says("`credits`: the number of credits, 1 to 2000000000");
        RiddlePress x = press(0, 0, 0);
        for (int wrong : new int[] {0, -1, -2000000000, 2000000001, MOST, LEAST}) {
            Due.is("credits " + wrong, Due.ARGUMENT, () -> x.deposit(0, wrong));
        }
        credits(x, 0, 0);
        Due.is("least", 1, () -> x.deposit(0, 1));
        Due.is("most", MOST_DEPOSIT, () -> x.deposit(1, MOST_DEPOSIT));
        Due.is("one more, of 1", 2000000001, () -> x.deposit(1, 1));
        credits(x, 1, 2000000001);
    }

    private static void depositTooMuch() {
        Due.says("Throws `ArithmeticException` if it would have more than 2147483647");
        RiddlePress x = press(0, MOST_DEPOSIT, 147483647, 147483648, 0);
        Due.is("one too many", Due.ARITHMETIC, () -> x.deposit(0, 147483648));
        Due.is("as many as may be", MOST, () -> x.deposit(0, 147483647));
        Due.is("one more", Due.ARITHMETIC, () -> x.deposit(0, 1));
        Due.is("many more", Due.ARITHMETIC, () -> x.deposit(0, MOST_DEPOSIT));
        Due.is("the most, just as many", MOST, () -> x.deposit(1, MOST_DEPOSIT));
        Due.is("the most, one too many", Due.ARITHMETIC, () -> x.deposit(2, MOST_DEPOSIT));
        Due.is("one fewer", MOST, () -> x.deposit(2, MOST_DEPOSIT - 1));
        Due.is("out of range is told first", Due.ARGUMENT, () -> x.deposit(0, MOST));
        Due.is("out of range is told first", Due.ARGUMENT, () -> x.deposit(0, 0));
        credits(x, MOST, MOST, MOST, 0);
    }

    private static void depositNoSuchCustomer() {
        Due.says("deposit: Throws `IndexOutOfBoundsException` if there is no such customer");
        RiddlePress x = press(0, 1);
        for (int wrong : new int[] {-1, 1, 8, MOST, LEAST}) {
            Due.is("customer " + wrong, Due.INDEX, () -> x.deposit(wrong, 1));
            Due.is("and no range, " + wrong, Due.INDEX, () -> x.deposit(wrong, 0));
        }
    }

    private static void subscribeRange() {
        Due.says("`issues`: how many more, 1 to 12");
        RiddlePress x = press(0, 0, 0);
        for (int wrong : new int[] {0, -1, -12, 13, 24, MOST, LEAST}) {
            Due.is("issues " + wrong, Due.ARGUMENT, () -> x.subscribe(0, wrong));
        }
        Due.is("least", 1, () -> x.subscribe(0, 1));
        Due.is("most, more than 12 in all", 13, () -> x.subscribe(0, 12));
        Due.is("most again", 25, () -> x.subscribe(0, 12));
        Due.is("of another one", 12, () -> x.subscribe(1, 12));
    }

    private static void subscribeNoSuchCustomer() {
        Due.says("subscribe: Throws `IndexOutOfBoundsException` if there is no such customer");
        RiddlePress x = press(0, 1);
        for (int wrong : new int[] {-1, 1, 8, MOST, LEAST}) {
            Due.is("customer " + wrong, Due.INDEX, () -> x.subscribe(wrong, 1));
            Due.is("and no range, " + wrong, Due.INDEX, () -> x.subscribe(wrong, 13));
        }
    }

    // ---- sales by subscription

    private static void asManyCredits() {
        Due.says("each customer by numbers who has subscribed issues left, and as many credits");
        for (int price : new int[] {1, 30, 1000}) {
            RiddlePress x = press(1, price - 1, price, price + 1, 0);
            for (int customer = 0; customer < 4; customer++) {
                x.subscribe(customer, 2);
            }
            Due.is("two of them", 2, () -> x.publish(0, price));
            credits(x, price - 1, 0, 1, 0);
            owners(x, 0, "nyyn");
            left(x, 0, 2);
            left(x, 1, 1);
            left(x, 2, 1);
            left(x, 3, 2);
            Due.is("press", 2L * price, x::press);
        }
    }

    private static void subscribedIssuesLeft() {
        Due.says("and one subscribed issue less is left");
        RiddlePress x = press(3, 100, 100, 100);
        x.subscribe(1, 1);
        x.subscribe(2, 2);
        Due.is("the first", 2, () -> x.publish(0, 10));
        owners(x, 0, "nyy");
        Due.is("the second", 1, () -> x.publish(1, 10));
        owners(x, 1, "nny");
        Due.is("the third", 0, () -> x.publish(2, 10));
        owners(x, 2, "nnn");
        credits(x, 100, 90, 80);
        left(x, 0, 0);
        left(x, 1, 0);
        left(x, 2, 0);
    }

    private static void soldForNothing() {
        Due.says("`price`: its price, 0 to 1000");
        RiddlePress x = press(1, 0, 0);
        x.subscribe(1, 1);
        Due.is("for nothing, by subscription", 1, () -> x.publish(0, 0));
        owners(x, 0, "ny");
        left(x, 1, 0);
        credits(x, 0, 0);
        Due.is("press", 0L, x::press);
    }

    private static void howManyGotIt() {
        Due.says("Returns how many customers got it");
        RiddlePress x = press(2, 5, 5, 5, 5, 5, 5, 5, 5);
        Due.is("no subscriber", 0, () -> x.publish(0, 1));
        for (int customer = 0; customer < 8; customer++) {
            x.subscribe(customer, 12);
        }
        Due.is("all eight", 8, () -> x.publish(1, 1));
        owners(x, 0, "nnnnnnnn");
        owners(x, 1, "yyyyyyyy");
        Due.is("no customer", 0, () -> press(1).publish(0, 1));
    }

    private static void creditsGoToThePress() {
        Due.says("the credits go to the press");
        RiddlePress x = press(2, 2000000000, 50);
        x.subscribe(0, 2);
        x.publish(0, 1000);
        Due.is("press", 1000L, x::press);
        credits(x, 1999999000, 50);
        x.publish(1, 50);
        Due.is("press", 1050L, x::press);
        x.buy(1, 1);
        Due.is("press", 1100L, x::press);
        credits(x, 1999998950, 0);
    }

    // ---- promise 25

    private static void buyWithTooFewCredits() {
        Due.says("or has too few credits");
        for (int price : new int[] {1, 30, 1000}) {
            RiddlePress x = press(1, price - 1, price, price + 1);
            x.publish(0, price);
            Due.is("one too few", Due.UNSUPPORTED, () -> x.buy(0, 0));
            Due.is("just enough", 0, () -> x.buy(1, 0));
            Due.is("one more", 1, () -> x.buy(2, 0));
            owners(x, 0, "nyy");
            credits(x, price - 1, 0, 1);
            x.deposit(0, 1);
            Due.is("enough now", 0, () -> x.buy(0, 0));
        }
    }

    private static void buyWhatIsHad() {
        Due.says("the customer has it");
        RiddlePress x = press(2, 100, 100);
        x.subscribe(0, 1);
        x.publish(0, 10);
        x.publish(1, 10);
        Due.is("by subscription", Due.UNSUPPORTED, () -> x.buy(0, 0));
        Due.is("not yet", 90, () -> x.buy(1, 0));
        Due.is("bought", Due.UNSUPPORTED, () -> x.buy(1, 0));
        Due.is("another issue", 80, () -> x.buy(0, 1));
        credits(x, 80, 90);
        Due.is("press", 30L, x::press);
    }

    private static void buyNotOnSale() {
        Due.says("Throws `UnsupportedOperationException` if it is not on sale");
        RiddlePress x = press(1, 100, 100);
        Due.is("made up", Due.UNSUPPORTED, () -> x.buy(0, 0));
        x.publish(0, 10);
        Due.is("on sale", 90, () -> x.buy(0, 0));
        x.fall(10);
        Due.is("recalled, had", Due.UNSUPPORTED, () -> x.buy(0, 0));
        Due.is("recalled, not had", Due.UNSUPPORTED, () -> x.buy(1, 0));
        owners(x, 0, "yn");
        credits(x, 100, 100);
    }

    private static void buyAtNoPrice() {
        Due.says("Others can buy it while it is on sale");
        RiddlePress x = press(1, 0, 0);
        x.publish(0, 0);
        Due.is("without credits", 0, () -> x.buy(0, 0));
        Due.is("twice", Due.UNSUPPORTED, () -> x.buy(0, 0));
        x.subscribe(1, 5);
        Due.is("with a subscription", 0, () -> x.buy(1, 0));
        left(x, 0, 0);
        left(x, 1, 5);
        x.customer();
        Due.is("one who came later", 0, () -> x.buy(2, 0));
        owners(x, 0, "yyy");
    }

    private static void buyNoSuchCustomerOrIssue() {
        Due.says("buy: Throws `IndexOutOfBoundsException` if there is no such customer or issue");
        RiddlePress x = press(1, 100);
        for (int wrong : new int[] {-1, 1, 8, 12, MOST, LEAST}) {
            Due.is("customer, made up, " + wrong, Due.INDEX, () -> x.buy(wrong, 0));
            Due.is("issue " + wrong, Due.INDEX, () -> x.buy(0, wrong));
            Due.is("both " + wrong, Due.INDEX, () -> x.buy(wrong, wrong));
        }
        x.publish(0, 1);
        for (int wrong : new int[] {-1, 1, 8, 12, MOST, LEAST}) {
            Due.is("customer, on sale, " + wrong, Due.INDEX, () -> x.buy(wrong, 0));
        }
        credits(x, 100);
    }

    // ---- promises 26 to 28

    private static void creditsNoSuchCustomer() {
        Due.says("credits: Throws `IndexOutOfBoundsException` if there is no such customer");
        RiddlePress x = new RiddlePress();
        Due.is("of none", Due.INDEX, () -> x.credits(0));
        for (int customer = 0; customer < 8; customer++) {
            x.customer();
        }
        for (int wrong : new int[] {-1, 8, MOST, LEAST}) {
            Due.is("of 8, " + wrong, Due.INDEX, () -> x.credits(wrong));
        }
        x.deposit(7, 5);
        Due.is("the last one", 5, () -> x.credits(7));
        Due.is("the first one", 0, () -> x.credits(0));
    }

    private static void hasOneThatWasRecalled() {
        Due.says("Returns whether a customer has an issue, also one that was recalled since");
        RiddlePress x = press(2, 100, 100);
        owners(x, 0, "nn");
        x.publish(0, 10);
        x.publish(1, 0);
        owners(x, 0, "nn");
        x.buy(1, 0);
        x.buy(0, 1);
        owners(x, 0, "ny");
        owners(x, 1, "yn");
        x.fall(10);
        owners(x, 0, "ny");
        owners(x, 1, "yn");
    }

    private static void hasNoSuchCustomerOrIssue() {
        Due.says("has: Throws `IndexOutOfBoundsException` if there is no such customer or issue");
        RiddlePress x = press(0, 0, 0, 0, 0, 0, 0, 0, 0);
        Due.is("no issue", Due.INDEX, () -> x.has(0, 0));
        for (int issue = 0; issue < 12; issue++) {
            int wrong = issue;
            Due.is("not yet there", Due.INDEX, () -> x.has(7, wrong));
            x.issue();
            Due.is("there", false, () -> x.has(7, wrong));
        }
        for (int wrong : new int[] {-1, 12, 20, MOST, LEAST}) {
            Due.is("issue " + wrong, Due.INDEX, () -> x.has(0, wrong));
            Due.is("customer " + wrong, Due.INDEX, () -> x.has(wrong, 0));
            Due.is("both " + wrong, Due.INDEX, () -> x.has(wrong, wrong));
        }
        Due.is("customer 8", Due.INDEX, () -> x.has(8, 0));
    }

    private static void pressOfTheMostSales() {
        Due.says("Returns the credits, less than 0 perhaps");
        int[] credits = new int[8];
        java.util.Arrays.fill(credits, 12000);
        RiddlePress x = press(12, credits);
        for (int customer = 0; customer < 8; customer++) {
            x.subscribe(customer, 12);
        }
        Due.is("before", 0L, x::press);
        for (int issue = 0; issue < 12; issue++) {
            int published = issue;
            Due.is("issue " + issue, 8, () -> x.publish(published, 1000));
            Due.is("press", 8000L * (issue + 1), x::press);
        }
        credits(x, 0, 0, 0, 0, 0, 0, 0, 0);
        Due.is("all recalled", 12, () -> x.fall(10));
        Due.is("press", 0L, x::press);
        credits(x, credits);
        left(x, 7, 0);
    }
}
