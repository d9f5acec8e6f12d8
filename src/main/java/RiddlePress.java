import java.util.ArrayList;
import java.util.List;
import java.util.NoSuchElementException;

/**
 * A press for riddles of orderings, with proofs that lean on rules, issues that are sold by
 * subscription and indexed by the rules that their proofs use, rules that fall by
 * counterexamples, recalls that are paid in credits, and riddles that are proved anew and come
 * back.
 */
public final class RiddlePress {
    private static final int LEAST_PERSONS = 3;
    private static final int MOST_PERSONS = 6;
    private static final int MOST_ORDERS = 720;
    private static final int MOST_K = 5;
    private static final int MOST_RIDDLES = 20;
    private static final int MOST_CLUES = 8;
    private static final int MOST_OWN_RULES = 6;
    private static final int MOST_ISSUES = 12;
    private static final int MOST_RIDDLES_OF_AN_ISSUE = 4;
    private static final int MOST_CUSTOMERS = 8;
    private static final int MOST_PRICE = 1000;
    private static final int MOST_DEPOSIT = 2000000000;
    private static final int MOST_CREDITS = 2147483647;
    private static final int MOST_SUBSCRIBED = 12;

    /** Each step takes away one place at least, of six places for each of six persons. */
    private static final int MOST_STEPS = 36;

    /** The kinds of clues, in the order of the rules 0 to 6 that are for them. */
    private static final String CLUE_KINDS = "pxbnldm";
    private static final String OWN_RULE_KINDS = "bnlm";
    private static final int PERSON_RULE = 7;
    private static final int PLACE_RULE = 8;
    private static final int PAIR_RULE = 9;
    private static final int FIRST_OWN_RULE = 10;

    /** The cause of a step by a pair is this times the first person, plus the second one. */
    private static final int PAIR_FACTOR = 10;
    private static final int NO_PLACE = -1;
    private static final int NO_COUNTEREXAMPLE = 0;
    private static final int NOT_COUNTED = -1;

    private static final char NO_PROOF = '-';
    private static final char WHOLE = 'w';
    private static final char NOT_WHOLE = 'n';
    private static final char FAILED = 'f';

    private static final char OPEN = 'o';
    private static final char PROVED = 'w';
    private static final char IN_ISSUE = 'i';
    private static final char SOLD = 's';
    private static final char BACK = 'b';
    private static final char HELD = 'h';

    private static final char MADE_UP = 'm';
    private static final char ON_SALE = 's';
    private static final char RECALLED = 'r';

    private final List<Riddle> riddles;
    private final List<OwnRule> ownRules;
    private final List<Issue> issues;
    private final List<Customer> customers;
    private long pressCredits;

    /** Creates a press without riddles, issues and customers. */
    public RiddlePress() {
        riddles = new ArrayList<>();
        ownRules = new ArrayList<>();
        issues = new ArrayList<>();
        customers = new ArrayList<>();
        pressCredits = 0;
    }

    // ---- riddles and proofs

    /** Adds a riddle without clues, and returns its number. */
    public int riddle(int persons) throws IllegalArgumentException, IllegalStateException {
        if (persons < LEAST_PERSONS || persons > MOST_PERSONS) {
            throw new IllegalArgumentException("a riddle has 3 to 6 persons");
        }
        if (riddles.size() >= MOST_RIDDLES) {
            throw new IllegalStateException("there are 20 riddles");
        }
        riddles.add(new Riddle(persons));
        return riddles.size() - 1;
    }

    /** Adds a clue to a riddle that has no proof, and returns how many clues it has. */
    public int clue(int riddle, char kind, int a, int b, int c)
            throws IndexOutOfBoundsException, IllegalArgumentException,
            UnsupportedOperationException, IllegalStateException {
        Riddle told = findRiddle(riddle);
        Clue clue = new Clue(kind, a, b, c);
        if (!clue.isFor(told.persons)) {
            throw new IllegalArgumentException("no such clue");
        }
        if (told.proof.outcome != NO_PROOF) {
            throw new UnsupportedOperationException("the riddle has a proof");
        }
        if (told.clues.size() >= MOST_CLUES) {
            throw new IllegalStateException("the riddle has 8 clues");
        }
        told.addClue(clue);
        return told.clues.size();
    }

    /** Returns how many answers a riddle has. */
    public int answers(int riddle) throws IndexOutOfBoundsException {
        Riddle asked = findRiddle(riddle);
        asked.findAnswers();
        return asked.answerCount;
    }

    /** Returns the place of a person in the first answer. */
    public int answer(int riddle, int person)
            throws IndexOutOfBoundsException, NoSuchElementException {
        Riddle asked = findRiddle(riddle);
        if (person < 0 || person >= asked.firstAnswer.length) {
            throw new IndexOutOfBoundsException("no such person");
        }
        asked.findAnswers();
        if (asked.answerCount == 0) {
            throw new NoSuchElementException("there is no answer");
        }
        return asked.firstAnswer[person];
    }

    /** Proves a riddle with the rules that stand, and returns 'w', 'n' or 'f'. */
    public char prove(int riddle)
            throws IndexOutOfBoundsException, UnsupportedOperationException {
        Riddle proved = findRiddle(riddle);
        if (proved.state == IN_ISSUE || proved.state == SOLD || proved.state == BACK) {
            throw new UnsupportedOperationException("it is in an issue, or comes back");
        }
        proved.proof.make(proved.clues, ownRules);
        if (proved.proof.outcome == WHOLE) {
            proved.state = PROVED;
        } else if (proved.state != HELD) {
            proved.state = OPEN;
        }
        return proved.proof.outcome;
    }

    /** Returns the number of steps of the proof of a riddle. */
    public int steps(int riddle) throws IndexOutOfBoundsException, NoSuchElementException {
        Proof proof = findRiddle(riddle).proof;
        if (proof.outcome == NO_PROOF) {
            throw new NoSuchElementException("the riddle has no proof");
        }
        return proof.stepCount;
    }

    /** Returns the rule of a step. */
    public int ruleAt(int riddle, int step)
            throws IndexOutOfBoundsException, NoSuchElementException {
        Proof proof = findRiddle(riddle).proof;
        if (!proof.hasStep(step)) {
            throw new NoSuchElementException("no such step");
        }
        return proof.ruleOf[step];
    }

    /** Returns the number of the clue, the person, the place or the pair that made a step. */
    public int causeAt(int riddle, int step)
            throws IndexOutOfBoundsException, NoSuchElementException {
        Proof proof = findRiddle(riddle).proof;
        if (!proof.hasStep(step)) {
            throw new NoSuchElementException("no such step");
        }
        return proof.causeOf[step];
    }

    /** Returns how many places a step took away. */
    public int takenAt(int riddle, int step)
            throws IndexOutOfBoundsException, NoSuchElementException {
        Proof proof = findRiddle(riddle).proof;
        if (!proof.hasStep(step)) {
            throw new NoSuchElementException("no such step");
        }
        return proof.takenBy[step];
    }

    /** Returns whether the proof of a riddle has a step by a rule. */
    public boolean leansOn(int riddle, int rule) throws IndexOutOfBoundsException {
        Riddle asked = findRiddle(riddle);
        checkRule(rule);
        return asked.proof.hasStepBy(rule);
    }

    /** Returns the state of a riddle: 'o', 'w', 'i', 's', 'b' or 'h'. */
    public char state(int riddle) throws IndexOutOfBoundsException {
        return findRiddle(riddle).state;
    }

    // ---- own rules

    /** Tells an own rule, and returns its number. */
    public int rule(char kind, char person, boolean isFirst, int k)
            throws IllegalArgumentException, IllegalStateException {
        if (OWN_RULE_KINDS.indexOf(kind) < 0 || !isPersonOf(kind, person)
                || k < 1 || k > MOST_K) {
            throw new IllegalArgumentException("no such own rule can be told");
        }
        if (ownRules.size() >= MOST_OWN_RULES) {
            throw new IllegalStateException("there are 6 own rules");
        }
        OwnRule told = new OwnRule(kind, person, isFirst, k);
        told.findCounterexample();
        ownRules.add(told);
        return FIRST_OWN_RULE + ownRules.size() - 1;
    }

    /** Returns whether a rule stands. */
    public boolean stands(int rule) throws IndexOutOfBoundsException {
        checkRule(rule);
        return rule < FIRST_OWN_RULE || findOwnRule(rule).isStanding;
    }

    /** Returns the digits of the counterexample of an own rule. */
    public int counterexample(int rule)
            throws IndexOutOfBoundsException, NoSuchElementException {
        int digits = findOwnRule(rule).counterDigits;
        if (digits == NO_COUNTEREXAMPLE) {
            throw new NoSuchElementException("there is no counterexample");
        }
        return digits;
    }

    /** Lets an own rule fall, and returns how many issues are recalled. */
    public int fall(int rule) throws IndexOutOfBoundsException, UnsupportedOperationException {
        OwnRule falling = findOwnRule(rule);
        if (falling.counterDigits == NO_COUNTEREXAMPLE || !falling.isStanding) {
            throw new UnsupportedOperationException("no counterexample, or it has fallen");
        }
        falling.isStanding = false;
        int recalled = 0;
        for (int issue = 0; issue < issues.size(); issue++) {
            if (isOnSaleBy(issues.get(issue), rule)) {
                issues.get(issue).state = RECALLED;
                payBack(issue, issues.get(issue).price);
                takeBackRiddles(issues.get(issue), rule);
                recalled++;
            }
        }
        loseProofsBy(rule);
        return recalled;
    }

    // ---- issues and customers

    /** Begins an issue without riddles, and returns its number. */
    public int issue() throws IllegalStateException {
        if (issues.size() >= MOST_ISSUES) {
            throw new IllegalStateException("there are 12 issues");
        }
        issues.add(new Issue());
        return issues.size() - 1;
    }

    /** Puts a riddle into an issue that is made up, and returns how many riddles this has. */
    public int put(int issue, int riddle)
            throws IndexOutOfBoundsException, UnsupportedOperationException,
            IllegalStateException {
        Issue filled = findIssue(issue);
        Riddle added = findRiddle(riddle);
        if (filled.state != MADE_UP || !isReady(added)) {
            throw new UnsupportedOperationException("not made up, or not proved whole");
        }
        int count = countRiddlesOf(filled);
        if (count >= MOST_RIDDLES_OF_AN_ISSUE) {
            throw new IllegalStateException("the issue has 4 riddles");
        }
        added.state = IN_ISSUE;
        added.issue = filled;
        return count + 1;
    }

    /** Puts an issue on sale, and returns how many customers got it by subscription. */
    public int publish(int issue, int price)
            throws IndexOutOfBoundsException, IllegalArgumentException,
            UnsupportedOperationException {
        Issue published = findIssue(issue);
        if (price < 0 || price > MOST_PRICE) {
            throw new IllegalArgumentException("a price is 0 to 1000");
        }
        if (published.state != MADE_UP || countRiddlesOf(published) == 0) {
            throw new UnsupportedOperationException("not made up, or without riddles");
        }
        published.state = ON_SALE;
        published.price = price;
        for (int i = 0; i < riddles.size(); i++) {
            if (riddles.get(i).issue == published) {
                riddles.get(i).state = SOLD;
            }
        }
        return sellToSubscribers(issue, price);
    }

    /** Returns the state of an issue: 'm', 's' or 'r'. */
    public char issueState(int issue) throws IndexOutOfBoundsException {
        return findIssue(issue).state;
    }

    /** Returns how many issues on sale lean on a rule. */
    public int indexed(int rule) throws IndexOutOfBoundsException {
        checkRule(rule);
        int count = 0;
        for (int issue = 0; issue < issues.size(); issue++) {
            if (isOnSaleBy(issues.get(issue), rule)) {
                count++;
            }
        }
        return count;
    }

    /** Adds a customer without credits, and returns its number. */
    public int customer() throws IllegalStateException {
        if (customers.size() >= MOST_CUSTOMERS) {
            throw new IllegalStateException("there are 8 customers");
        }
        customers.add(new Customer());
        return customers.size() - 1;
    }

    /** Gives credits to a customer, and returns the credits then. */
    public int deposit(int customer, int credits)
            throws IndexOutOfBoundsException, IllegalArgumentException, ArithmeticException {
        Customer payer = findCustomer(customer);
        if (credits < 1 || credits > MOST_DEPOSIT) {
            throw new IllegalArgumentException("a deposit is 1 to 2000000000");
        }
        if (payer.credits > MOST_CREDITS - credits) {
            throw new ArithmeticException("more than 2147483647 credits");
        }
        payer.credits += credits;
        return payer.credits;
    }

    /** Subscribes issues for a customer, and returns how many are left then. */
    public int subscribe(int customer, int issues)
            throws IndexOutOfBoundsException, IllegalArgumentException {
        Customer subscriber = findCustomer(customer);
        if (issues < 1 || issues > MOST_SUBSCRIBED) {
            throw new IllegalArgumentException("1 to 12 issues are subscribed");
        }
        subscriber.subscribed += issues;
        return subscriber.subscribed;
    }

    /** Lets a customer buy an issue, and returns the credits then. */
    public int buy(int customer, int issue)
            throws IndexOutOfBoundsException, UnsupportedOperationException {
        Customer buyer = findCustomer(customer);
        Issue bought = findIssue(issue);
        if (bought.state != ON_SALE || buyer.isOwnerOf(issue) || buyer.credits < bought.price) {
            throw new UnsupportedOperationException("not on sale, had, or too few credits");
        }
        sell(buyer, issue, bought.price);
        return buyer.credits;
    }

    /** Returns the credits of a customer. */
    public int credits(int customer) throws IndexOutOfBoundsException {
        return findCustomer(customer).credits;
    }

    /** Returns whether a customer has an issue, also one that was recalled since. */
    public boolean has(int customer, int issue) throws IndexOutOfBoundsException {
        Customer asked = findCustomer(customer);
        findIssue(issue);
        return asked.isOwnerOf(issue);
    }

    /** Returns the credits that the press has, less than 0 perhaps. */
    public long press() {
        return pressCredits;
    }

    /** Returns whether no proof on sale leans on a fallen rule, and those by rules 0 to 9 hold. */
    public boolean isClean() {
        for (int i = 0; i < riddles.size(); i++) {
            if (riddles.get(i).state == SOLD && !isSound(riddles.get(i))) {
                return false;
            }
        }
        return true;
    }

    // ---- figures

    /** Returns the share of the riddles whose proof is whole. */
    public float provedShare() throws ArithmeticException {
        if (riddles.isEmpty()) {
            throw new ArithmeticException("there are no riddles");
        }
        return (float) countWholeProofs() / (float) riddles.size();
    }

    /** Returns the mean number of steps of the whole proofs. */
    public double meanSteps() throws ArithmeticException {
        int count = countWholeProofs();
        if (count == 0) {
            throw new ArithmeticException("there are no whole proofs");
        }
        int sum = 0;
        for (int i = 0; i < riddles.size(); i++) {
            if (riddles.get(i).proof.outcome == WHOLE) {
                sum += riddles.get(i).proof.stepCount;
            }
        }
        return (double) sum / (double) count;
    }

    // ---- what there is

    private Riddle findRiddle(int number) {
        if (number < 0 || number >= riddles.size()) {
            throw new IndexOutOfBoundsException("no such riddle");
        }
        return riddles.get(number);
    }

    private void checkRule(int number) {
        if (number < 0 || number >= FIRST_OWN_RULE + ownRules.size()) {
            throw new IndexOutOfBoundsException("no such rule");
        }
    }

    private OwnRule findOwnRule(int number) {
        int place = number - FIRST_OWN_RULE;
        if (number < FIRST_OWN_RULE || place >= ownRules.size()) {
            throw new IndexOutOfBoundsException("no such own rule");
        }
        return ownRules.get(place);
    }

    private Issue findIssue(int number) {
        if (number < 0 || number >= issues.size()) {
            throw new IndexOutOfBoundsException("no such issue");
        }
        return issues.get(number);
    }

    private Customer findCustomer(int number) {
        if (number < 0 || number >= customers.size()) {
            throw new IndexOutOfBoundsException("no such customer");
        }
        return customers.get(number);
    }

    private static boolean isPersonOf(char kind, char person) {
        return person == 'a' || person == 'b' || (person == 'c' && kind == 'm');
    }

    // ---- issues and their riddles

    private int countRiddlesOf(Issue issue) {
        int count = 0;
        for (int i = 0; i < riddles.size(); i++) {
            if (riddles.get(i).issue == issue) {
                count++;
            }
        }
        return count;
    }

    private static boolean isReady(Riddle riddle) {
        return riddle.state == PROVED || riddle.state == BACK;
    }

    private boolean isOnSaleBy(Issue issue, int rule) {
        if (issue.state != ON_SALE) {
            return false;
        }
        for (int i = 0; i < riddles.size(); i++) {
            if (riddles.get(i).issue == issue && riddles.get(i).proof.hasStepBy(rule)) {
                return true;
            }
        }
        return false;
    }

    private void takeBackRiddles(Issue issue, int rule) {
        for (int i = 0; i < riddles.size(); i++) {
            Riddle riddle = riddles.get(i);
            if (riddle.issue == issue) {
                riddle.issue = null;
                if (riddle.proof.hasStepBy(rule)) {
                    riddle.proof.make(riddle.clues, ownRules);
                }
                riddle.state = riddle.proof.outcome == WHOLE ? BACK : HELD;
            }
        }
    }

    /** The riddles on sale that leaned on the rule are back by now, with other proofs. */
    private void loseProofsBy(int rule) {
        for (int i = 0; i < riddles.size(); i++) {
            Riddle riddle = riddles.get(i);
            if (riddle.proof.hasStepBy(rule)) {
                riddle.proof.lose();
                riddle.state = OPEN;
                riddle.issue = null;
            }
        }
    }

    private boolean isSound(Riddle riddle) {
        boolean leansOnOwn = false;
        for (int i = 0; i < ownRules.size(); i++) {
            if (riddle.proof.hasStepBy(FIRST_OWN_RULE + i)) {
                if (!ownRules.get(i).isStanding) {
                    return false;
                }
                leansOnOwn = true;
            }
        }
        if (leansOnOwn) {
            return true;
        }
        riddle.findAnswers();
        return riddle.answerCount == 1;
    }

    private int countWholeProofs() {
        int count = 0;
        for (int i = 0; i < riddles.size(); i++) {
            if (riddles.get(i).proof.outcome == WHOLE) {
                count++;
            }
        }
        return count;
    }

    // ---- credits

    private int sellToSubscribers(int issue, int price) {
        int count = 0;
        for (int i = 0; i < customers.size(); i++) {
            Customer subscriber = customers.get(i);
            if (subscriber.subscribed > 0 && subscriber.credits >= price) {
                subscriber.subscribed--;
                sell(subscriber, issue, price);
                count++;
            }
        }
        return count;
    }

    private void sell(Customer buyer, int issue, int price) {
        buyer.credits -= price;
        pressCredits += price;
        buyer.addIssue(issue);
    }

    private void payBack(int issue, int price) {
        for (int i = 0; i < customers.size(); i++) {
            Customer owner = customers.get(i);
            if (owner.isOwnerOf(issue)) {
                owner.credits += Math.min(price, MOST_CREDITS - owner.credits);
                pressCredits -= price;
            }
        }
    }

    // ---- the parts

    /** A clue of a riddle; a, b and c are as the call clue gave them. */
    private static final class Clue {
        final char kind;
        final int a;
        final int b;
        final int c;

        Clue(char kind, int a, int b, int c) {
            this.kind = kind;
            this.a = a;
            this.b = b;
            this.c = c;
        }

        /** Returns the rule, 0 to 6, that is for clues of this kind; -1 if there is none. */
        int ruleNumber() {
            return CLUE_KINDS.indexOf(kind);
        }

        /** Returns whether a riddle of so many persons can have this clue. */
        boolean isFor(int persons) {
            if (ruleNumber() < 0 || a < 0 || a >= persons || b < 0 || b >= persons) {
                return false;
            }
            switch (kind) {
                case 'p':
                case 'x':
                    return true;
                case 'd':
                    return a != b && c >= 1 && c <= MOST_K;
                case 'm':
                    return a != b && c >= 0 && c < persons && c != a && c != b;
                default:
                    return a != b;
            }
        }

        /** Returns whether an order fits this clue. */
        boolean isFitBy(Order order) {
            int placeOfA = order.placeOf(a);
            int placeOfB = order.placeOf(b);
            switch (kind) {
                case 'p':
                    return placeOfA == b;
                case 'x':
                    return placeOfA != b;
                case 'b':
                    return placeOfA < placeOfB;
                case 'n':
                    return Math.abs(placeOfA - placeOfB) == 1;
                case 'l':
                    return placeOfA + 1 == placeOfB;
                case 'd':
                    return Math.abs(placeOfA - placeOfB) == c;
                default:
                    return Math.min(placeOfA, placeOfB) < order.placeOf(c)
                            && order.placeOf(c) < Math.max(placeOfA, placeOfB);
            }
        }
    }

    /** An order of persons: the first one, and then each next one by the places of 0, 1 and on. */
    private static final class Order {
        private final int[] places;

        Order(int persons) {
            places = new int[persons];
            for (int person = 0; person < places.length; person++) {
                places[person] = person;
            }
        }

        int placeOf(int person) {
            return person >= 0 && person < places.length ? places[person] : NO_PLACE;
        }

        /** Goes on to the next order, and returns whether there was one. */
        boolean goOn() {
            int turn = places.length - 2;
            while (turn >= 0 && places[turn] > places[turn + 1]) {
                turn--;
            }
            if (turn < 0) {
                return false;
            }
            int next = places.length - 1;
            while (next > turn && places[next] < places[turn]) {
                next--;
            }
            exchange(turn, next);
            int low = turn + 1;
            int high = places.length - 1;
            while (low < high) {
                exchange(low, high);
                low++;
                high--;
            }
            return true;
        }

        private void exchange(int one, int other) {
            int place = places[one];
            places[one] = places[other];
            places[other] = place;
        }

        /** Returns how many persons there are, and then the place of each, as digits. */
        int digits() {
            int digits = places.length;
            for (int person = 0; person < places.length; person++) {
                digits = 10 * digits + places[person];
            }
            return digits;
        }
    }

    /** A riddle with its clues and its proof. */
    private static final class Riddle {
        final int persons;
        final List<Clue> clues;
        final Proof proof;
        final int[] firstAnswer;
        int answerCount;
        char state;
        /** The issue, made up or on sale, that the riddle is in; null if there is none. */
        Issue issue;

        Riddle(int persons) {
            this.persons = persons;
            clues = new ArrayList<>();
            proof = new Proof(persons);
            firstAnswer = new int[persons];
            answerCount = NOT_COUNTED;
            state = OPEN;
            issue = null;
        }

        void addClue(Clue clue) {
            clues.add(clue);
            answerCount = NOT_COUNTED;
        }

        /** Tries all orders, but not again before there is another clue: it is much work. */
        void findAnswers() {
            if (answerCount != NOT_COUNTED) {
                return;
            }
            answerCount = 0;
            Order order = new Order(persons);
            boolean isMore = true;
            for (int i = 0; isMore && i < MOST_ORDERS; i++) {
                if (isAnsweredBy(order)) {
                    addAnswer(order);
                }
                isMore = order.goOn();
            }
        }

        private boolean isAnsweredBy(Order order) {
            for (int i = 0; i < clues.size(); i++) {
                if (!clues.get(i).isFitBy(order)) {
                    return false;
                }
            }
            return true;
        }

        private void addAnswer(Order order) {
            if (answerCount == 0) {
                for (int person = 0; person < firstAnswer.length; person++) {
                    firstAnswer[person] = order.placeOf(person);
                }
            }
            answerCount++;
        }
    }

    /** The places that each person of a riddle has yet, while it is proved. */
    private static final class Places {
        /** By persons: the bit k is set if the person has the place k. */
        private final int[] sets;

        Places(int persons) {
            sets = new int[persons];
        }

        int count() {
            return sets.length;
        }

        void giveAll() {
            for (int person = 0; person < sets.length; person++) {
                sets[person] = (1 << sets.length) - 1;
            }
        }

        boolean isSomeoneWithout() {
            for (int person = 0; person < sets.length; person++) {
                if (sets[person] == 0) {
                    return true;
                }
            }
            return false;
        }

        boolean hasEachOne() {
            for (int person = 0; person < sets.length; person++) {
                if (Integer.bitCount(sets[person]) != 1) {
                    return false;
                }
            }
            return true;
        }

        /** Rules 0 to 6; each take... function returns how many places it took away. */
        int takeByClue(Clue clue) {
            switch (clue.kind) {
                case 'p':
                    return keep(clue.a, 1 << clue.b);
                case 'x':
                    return keep(clue.a, ~(1 << clue.b));
                case 'b':
                    return takeByBefore(clue.a, clue.b);
                case 'n':
                    return takeByDistance(clue.a, clue.b, 1);
                case 'l':
                    return takeByNextLeft(clue.a, clue.b);
                case 'd':
                    return takeByDistance(clue.a, clue.b, clue.c);
                default:
                    return takeByBetween(clue.a, clue.b, clue.c);
            }
        }

        int takeByOwnRule(OwnRule rule, Clue clue) {
            if (rule.kind != clue.kind) {
                return 0;
            }
            return keep(rule.personIn(clue), ~rule.placesOf(sets.length));
        }

        /** Rule 7. */
        int takeByPerson(int person) {
            int set = setOf(person);
            if (Integer.bitCount(set) != 1) {
                return 0;
            }
            return takeFromOthers(person, person, set);
        }

        /** Rule 8. */
        int takeByPlace(int place) {
            int owners = 0;
            int owner = 0;
            for (int person = 0; person < sets.length; person++) {
                if ((sets[person] & (1 << place)) != 0) {
                    owners++;
                    owner = person;
                }
            }
            return owners == 1 ? keep(owner, 1 << place) : 0;
        }

        /** Rule 9. */
        int takeByPair(int first, int second) {
            int set = setOf(first);
            if (set != setOf(second) || Integer.bitCount(set) != 2) {
                return 0;
            }
            return takeFromOthers(first, second, set);
        }

        private int takeFromOthers(int one, int other, int set) {
            int taken = 0;
            for (int person = 0; person < sets.length; person++) {
                if (person != one && person != other) {
                    taken += keep(person, ~set);
                }
            }
            return taken;
        }

        private int takeByBefore(int a, int b) {
            int taken = keep(a, leftOf(setOf(b)));
            return taken + keep(b, rightOf(setOf(a)));
        }

        private int takeByDistance(int a, int b, int k) {
            int taken = keep(a, (setOf(b) << k) | (setOf(b) >> k));
            return taken + keep(b, (setOf(a) << k) | (setOf(a) >> k));
        }

        private int takeByNextLeft(int a, int b) {
            int taken = keep(a, setOf(b) >> 1);
            return taken + keep(b, setOf(a) << 1);
        }

        private int takeByBetween(int a, int b, int c) {
            int fromA = rightOf(setOf(a)) & leftOf(setOf(b));
            int fromB = rightOf(setOf(b)) & leftOf(setOf(a));
            return keep(c, fromA | fromB);
        }

        /** Returns the places that have one of the set right of them: none if it is empty. */
        private static int leftOf(int set) {
            int left = 0;
            for (int k = 1; k < MOST_PERSONS; k++) {
                left |= set >> k;
            }
            return left;
        }

        /** Returns the places that have one of the set left of them: none if it is empty. */
        private static int rightOf(int set) {
            int right = 0;
            for (int k = 1; k < MOST_PERSONS; k++) {
                right |= set << k;
            }
            return right;
        }

        private int setOf(int person) {
            return person >= 0 && person < sets.length ? sets[person] : 0;
        }

        private int keep(int person, int set) {
            if (person < 0 || person >= sets.length) {
                return 0;
            }
            int taken = Integer.bitCount(sets[person] & ~set);
            sets[person] &= set;
            return taken;
        }
    }

    /** The proof of a riddle, or the rows for it as long as there is none. */
    private static final class Proof {
        final int[] ruleOf;
        final int[] causeOf;
        final int[] takenBy;
        int stepCount;
        char outcome;
        private final Places places;
        /** The bit of each rule that made a step is set. */
        private int rulesUsed;

        Proof(int persons) {
            ruleOf = new int[MOST_STEPS];
            causeOf = new int[MOST_STEPS];
            takenBy = new int[MOST_STEPS];
            places = new Places(persons);
            stepCount = 0;
            outcome = NO_PROOF;
            rulesUsed = 0;
        }

        boolean hasStep(int step) {
            return step >= 0 && step < stepCount && step < MOST_STEPS;
        }

        boolean hasStepBy(int rule) {
            return (rulesUsed & (1 << rule)) != 0;
        }

        void lose() {
            stepCount = 0;
            outcome = NO_PROOF;
            rulesUsed = 0;
        }

        /** Makes the proof anew, with the rules that stand. */
        void make(List<Clue> clues, List<OwnRule> ownRules) {
            lose();
            places.giveAll();
            boolean isMore = true;
            for (int i = 0; isMore && i < MOST_STEPS; i++) {
                boolean isMade = makeStepByClues(clues) || makeStepByPersons()
                        || makeStepByPlaces() || makeStepByPairs()
                        || makeStepByOwnRules(clues, ownRules);
                isMore = isMade && !places.isSomeoneWithout();
            }
            if (places.isSomeoneWithout()) {
                outcome = FAILED;
            } else {
                outcome = places.hasEachOne() ? WHOLE : NOT_WHOLE;
            }
        }

        private boolean makeStepByClues(List<Clue> clues) {
            for (int rule = 0; rule < PERSON_RULE; rule++) {
                for (int i = 0; i < clues.size(); i++) {
                    Clue clue = clues.get(i);
                    if (clue.ruleNumber() == rule
                            && addStep(rule, i, places.takeByClue(clue))) {
                        return true;
                    }
                }
            }
            return false;
        }

        private boolean makeStepByPersons() {
            for (int person = 0; person < places.count(); person++) {
                if (addStep(PERSON_RULE, person, places.takeByPerson(person))) {
                    return true;
                }
            }
            return false;
        }

        private boolean makeStepByPlaces() {
            for (int place = 0; place < places.count(); place++) {
                if (addStep(PLACE_RULE, place, places.takeByPlace(place))) {
                    return true;
                }
            }
            return false;
        }

        private boolean makeStepByPairs() {
            for (int first = 0; first < places.count(); first++) {
                for (int second = first + 1; second < places.count(); second++) {
                    int pair = PAIR_FACTOR * first + second;
                    if (addStep(PAIR_RULE, pair, places.takeByPair(first, second))) {
                        return true;
                    }
                }
            }
            return false;
        }

        private boolean makeStepByOwnRules(List<Clue> clues, List<OwnRule> ownRules) {
            for (int rule = 0; rule < ownRules.size(); rule++) {
                OwnRule own = ownRules.get(rule);
                for (int i = 0; own.isStanding && i < clues.size(); i++) {
                    int taken = places.takeByOwnRule(own, clues.get(i));
                    if (addStep(FIRST_OWN_RULE + rule, i, taken)) {
                        return true;
                    }
                }
            }
            return false;
        }

        /** A try that took nothing away is no step; returns whether it was one. */
        private boolean addStep(int rule, int cause, int taken) {
            if (taken == 0 || stepCount < 0 || stepCount >= MOST_STEPS) {
                return false;
            }
            ruleOf[stepCount] = rule;
            causeOf[stepCount] = cause;
            takenBy[stepCount] = taken;
            rulesUsed |= 1 << rule;
            stepCount++;
            return true;
        }
    }

    /** An own rule: a person of each clue of a kind has none of the first or last k places. */
    private static final class OwnRule {
        final char kind;
        boolean isStanding;
        int counterDigits;
        private final char person;
        private final boolean isFirst;
        private final int k;

        OwnRule(char kind, char person, boolean isFirst, int k) {
            this.kind = kind;
            this.person = person;
            this.isFirst = isFirst;
            this.k = k;
            isStanding = true;
            counterDigits = NO_COUNTEREXAMPLE;
        }

        int personIn(Clue clue) {
            switch (person) {
                case 'a':
                    return clue.a;
                case 'b':
                    return clue.b;
                default:
                    return clue.c;
            }
        }

        /** Returns the set of places, of so many, that the person has not. */
        int placesOf(int persons) {
            int count = Math.min(k, persons);
            int set = (1 << count) - 1;
            return isFirst ? set : set << (persons - count);
        }

        /** Tries the orders of few persons first, as the one with the fewest is told. */
        void findCounterexample() {
            Clue clue = new Clue(kind, 0, 1, 2);
            for (int persons = LEAST_PERSONS; persons <= MOST_PERSONS; persons++) {
                if (counterDigits == NO_COUNTEREXAMPLE) {
                    findCounterexampleOf(new Order(persons), clue, placesOf(persons));
                }
            }
        }

        private void findCounterexampleOf(Order order, Clue clue, int set) {
            boolean isMore = true;
            for (int i = 0; isMore && i < MOST_ORDERS; i++) {
                int place = order.placeOf(personIn(clue));
                if ((set & (1 << place)) != 0 && clue.isFitBy(order)) {
                    counterDigits = order.digits();
                    return;
                }
                isMore = order.goOn();
            }
        }
    }

    /** An issue; its riddles know it. */
    private static final class Issue {
        char state;
        int price;

        Issue() {
            state = MADE_UP;
            price = 0;
        }
    }

    /** A customer with its credits, subscribed issues and issues. */
    private static final class Customer {
        int credits;
        int subscribed;
        private final boolean[] isOwner;

        Customer() {
            credits = 0;
            subscribed = 0;
            isOwner = new boolean[MOST_ISSUES];
        }

        boolean isOwnerOf(int issue) {
            return issue >= 0 && issue < isOwner.length && isOwner[issue];
        }

        void addIssue(int issue) {
            if (issue >= 0 && issue < isOwner.length) {
                isOwner[issue] = true;
            }
        }
    }
}
