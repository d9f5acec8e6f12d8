import java.util.ArrayList;
import java.util.Arrays;
import java.util.HashMap;
import java.util.List;
import java.util.Map;
import java.util.NoSuchElementException;
import java.util.SortedSet;
import java.util.TreeSet;

/**
 * The document written down a second time, by sets and lists and without any care for speed, so
 * that ModelTest can compare the two. It was not made from RiddlePress, nor should it be.
 */
final class ModelPress {
    static final class Riddle {
        int persons;
        List<int[]> clues = new ArrayList<>();
        /** Null without a proof; each step is a rule, a cause and how many places were taken. */
        List<int[]> proof;
        char result;
        char state = 'o';
    }

    static final class Rule {
        char kind;
        char person;
        boolean isFirst;
        int k;
        boolean hasFallen;
    }

    static final class Issue {
        char state = 'm';
        int price;
        List<Riddle> riddles = new ArrayList<>();
    }

    static final class Customer {
        long credits;
        int left;
        TreeSet<Integer> issues = new TreeSet<>();
    }

    final List<Riddle> riddles = new ArrayList<>();
    final List<Rule> rules = new ArrayList<>();
    final List<Issue> issues = new ArrayList<>();
    final List<Customer> customers = new ArrayList<>();
    final Map<String, Integer> seen = new HashMap<>();
    long money;

    void see(String what) {
        seen.merge(what, 1, Integer::sum);
    }

    // ---- what is there

    private Riddle theRiddle(int n) {
        if (n < 0 || n >= riddles.size()) {
            throw new IndexOutOfBoundsException();
        }
        return riddles.get(n);
    }

    private Issue theIssue(int n) {
        if (n < 0 || n >= issues.size()) {
            throw new IndexOutOfBoundsException();
        }
        return issues.get(n);
    }

    private Customer theCustomer(int n) {
        if (n < 0 || n >= customers.size()) {
            throw new IndexOutOfBoundsException();
        }
        return customers.get(n);
    }

    private Rule theRule(int n) {
        if (n < 10 || n >= 10 + rules.size()) {
            throw new IndexOutOfBoundsException();
        }
        return rules.get(n - 10);
    }

    private void checkRule(int n) {
        if (n < 0 || n > 9) {
            theRule(n);
        }
    }

    private static void argument(boolean isRight) {
        if (!isRight) {
            throw new IllegalArgumentException();
        }
    }

    private static void supported(boolean isSo) {
        if (!isSo) {
            throw new UnsupportedOperationException();
        }
    }

    private static void room(boolean isSo) {
        if (!isSo) {
            throw new IllegalStateException();
        }
    }

    // ---- riddles

    public int riddle(int persons) {
        argument(persons >= 3 && persons <= 6);
        room(riddles.size() < 20);
        Riddle r = new Riddle();
        r.persons = persons;
        riddles.add(r);
        return riddles.size() - 1;
    }

    public int clue(int riddle, char kind, int a, int b, int c) {
        Riddle r = theRiddle(riddle);
        argument(Arrays.asList('p', 'x', 'b', 'n', 'l', 'd', 'm').contains(kind));
        argument(0 <= a && a < r.persons && 0 <= b && b < r.persons);
        if (kind != 'p' && kind != 'x') {
            argument(a != b);
        }
        if (kind == 'd') {
            argument(1 <= c && c <= 5);
        }
        if (kind == 'm') {
            argument(0 <= c && c < r.persons && c != a && c != b);
        }
        supported(r.proof == null);
        room(r.clues.size() < 8);
        r.clues.add(new int[] {kind, a, b, c});
        return r.clues.size();
    }

    private static void allOrders(int persons, List<Integer> begun, List<List<Integer>> all) {
        if (begun.size() == persons) {
            all.add(new ArrayList<>(begun));
            return;
        }
        for (int place = 0; place < persons; place++) {
            if (!begun.contains(place)) {
                begun.add(place);
                allOrders(persons, begun, all);
                begun.remove(begun.size() - 1);
            }
        }
    }

    private static final Map<Integer, List<List<Integer>>> ORDERS = new HashMap<>();

    private static List<List<Integer>> orders(int persons) {
        return ORDERS.computeIfAbsent(persons, n -> {
            List<List<Integer>> all = new ArrayList<>();
            allOrders(n, new ArrayList<>(), all);
            return all;
        });
    }

    private static boolean fits(int[] clue, List<Integer> order) {
        int a = order.get(clue[1]);
        switch (clue[0]) {
            case 'p':
                return a == clue[2];
            case 'x':
                return a != clue[2];
            default:
        }
        int b = order.get(clue[2]);
        switch (clue[0]) {
            case 'b':
                return a < b;
            case 'n':
                return a == b + 1 || b == a + 1;
            case 'l':
                return b == a + 1;
            case 'd':
                return a - b == clue[3] || b - a == clue[3];
            default:
                int c = order.get(clue[3]);
                return a < c && c < b || b < c && c < a;
        }
    }

    private static List<List<Integer>> answersOf(Riddle r) {
        List<List<Integer>> answers = new ArrayList<>();
        for (List<Integer> order : orders(r.persons)) {
            boolean fitsAll = true;
            for (int[] clue : r.clues) {
                fitsAll &= fits(clue, order);
            }
            if (fitsAll) {
                answers.add(order);
            }
        }
        return answers;
    }

    public int answers(int riddle) {
        return answersOf(theRiddle(riddle)).size();
    }

    public int answer(int riddle, int person) {
        Riddle r = theRiddle(riddle);
        if (person < 0 || person >= r.persons) {
            throw new IndexOutOfBoundsException();
        }
        List<List<Integer>> answers = answersOf(r);
        if (answers.isEmpty()) {
            throw new NoSuchElementException();
        }
        return answers.get(0).get(person);
    }

    // ---- proofs: what a rule would leave of all places, told for each cause

    private static List<TreeSet<Integer>> copy(List<TreeSet<Integer>> all) {
        List<TreeSet<Integer>> copies = new ArrayList<>();
        for (TreeSet<Integer> places : all) {
            copies.add(new TreeSet<>(places));
        }
        return copies;
    }

    private static int size(List<TreeSet<Integer>> all) {
        int size = 0;
        for (TreeSet<Integer> places : all) {
            size += places.size();
        }
        return size;
    }

    private static boolean isLeftOfLast(int place, SortedSet<Integer> of) {
        return !of.isEmpty() && place < of.last();
    }

    private static boolean isRightOfFirst(int place, SortedSet<Integer> of) {
        return !of.isEmpty() && place > of.first();
    }

    private static void byClue(int[] clue, List<TreeSet<Integer>> all) {
        TreeSet<Integer> a = all.get(clue[1]);
        TreeSet<Integer> b = all.get(clue[2]);
        int k = clue[0] == 'd' ? clue[3] : 1;
        switch (clue[0]) {
            case 'p':
                a.removeIf(place -> place != clue[2]);
                break;
            case 'x':
                a.remove(clue[2]);
                break;
            case 'b':
                a.removeIf(place -> !isLeftOfLast(place, b));
                b.removeIf(place -> !isRightOfFirst(place, a));
                break;
            case 'n':
            case 'd':
                a.removeIf(place -> !b.contains(place - k) && !b.contains(place + k));
                b.removeIf(place -> !a.contains(place - k) && !a.contains(place + k));
                break;
            case 'l':
                a.removeIf(place -> !b.contains(place + 1));
                b.removeIf(place -> !a.contains(place - 1));
                break;
            default:
                all.get(clue[3]).removeIf(place ->
                        !(isRightOfFirst(place, a) && isLeftOfLast(place, b))
                        && !(isRightOfFirst(place, b) && isLeftOfLast(place, a)));
        }
    }

    private static void takeFromOthers(List<TreeSet<Integer>> all, TreeSet<Integer> taken,
            int one, int other) {
        for (int person = 0; person < all.size(); person++) {
            if (person != one && person != other) {
                all.get(person).removeAll(taken);
            }
        }
    }

    private static void byPlace(int place, List<TreeSet<Integer>> all) {
        List<TreeSet<Integer>> owners = new ArrayList<>();
        for (TreeSet<Integer> places : all) {
            if (places.contains(place)) {
                owners.add(places);
            }
        }
        if (owners.size() == 1) {
            owners.get(0).retainAll(new TreeSet<>(Arrays.asList(place)));
        }
    }

    private static void byOwn(Rule rule, int[] clue, List<TreeSet<Integer>> all) {
        int person = clue[rule.person == 'a' ? 1 : rule.person == 'b' ? 2 : 3];
        int n = all.size();
        all.get(person).removeIf(place -> isForbidden(rule, place, n));
    }

    private static boolean isForbidden(Rule rule, int place, int persons) {
        return rule.isFirst ? place + 1 <= rule.k : persons - place <= rule.k;
    }

    /** What the rule leaves by the cause; null if there is no such cause. */
    private List<TreeSet<Integer>> left(Riddle r, int rule, int cause,
            List<TreeSet<Integer>> before) {
        List<TreeSet<Integer>> all = copy(before);
        if (rule < 7) {
            if (cause >= r.clues.size() || r.clues.get(cause)[0] != "pxbnldm".charAt(rule)) {
                return null;
            }
            byClue(r.clues.get(cause), all);
        } else if (rule == 7) {
            if (cause >= r.persons || all.get(cause).size() != 1) {
                return null;
            }
            takeFromOthers(all, new TreeSet<>(all.get(cause)), cause, cause);
        } else if (rule == 8) {
            if (cause >= r.persons) {
                return null;
            }
            byPlace(cause, all);
        } else if (rule == 9) {
            int one = cause / 10;
            int other = cause % 10;
            if (one >= other || other >= r.persons || all.get(one).size() != 2
                    || !all.get(one).equals(all.get(other))) {
                return null;
            }
            takeFromOthers(all, new TreeSet<>(all.get(one)), one, other);
        } else {
            Rule own = rules.get(rule - 10);
            if (own.hasFallen || cause >= r.clues.size()
                    || r.clues.get(cause)[0] != own.kind) {
                return null;
            }
            byOwn(own, r.clues.get(cause), all);
        }
        return all;
    }

    private List<TreeSet<Integer>> step(Riddle r, List<TreeSet<Integer>> before) {
        for (int rule = 0; rule < 10 + rules.size(); rule++) {
            for (int cause = 0; cause < 60; cause++) {
                List<TreeSet<Integer>> after = left(r, rule, cause, before);
                if (after != null && size(after) < size(before)) {
                    r.proof.add(new int[] {rule, cause, size(before) - size(after)});
                    see("rule " + rule);
                    return after;
                }
            }
        }
        return null;
    }

    private void proveIt(Riddle r) {
        r.proof = new ArrayList<>();
        List<TreeSet<Integer>> all = new ArrayList<>();
        for (int person = 0; person < r.persons; person++) {
            all.add(new TreeSet<>());
            for (int place = 0; place < r.persons; place++) {
                all.get(person).add(place);
            }
        }
        while (true) {
            List<TreeSet<Integer>> next = step(r, all);
            if (next == null) {
                r.result = size(all) == r.persons ? 'w' : 'n';
                break;
            }
            all = next;
            if (all.contains(new TreeSet<Integer>())) {
                r.result = 'f';
                break;
            }
        }
        see("proof " + r.result);
    }

    public char prove(int riddle) {
        Riddle r = theRiddle(riddle);
        supported("owh".indexOf(r.state) >= 0);
        if (r.state == 'h') {
            see("held one proved");
        }
        proveIt(r);
        if (r.result == 'w') {
            r.state = 'w';
        } else if (r.state == 'w') {
            r.state = 'o';
        }
        return r.result;
    }

    public int steps(int riddle) {
        Riddle r = theRiddle(riddle);
        if (r.proof == null) {
            throw new NoSuchElementException();
        }
        return r.proof.size();
    }

    private int at(int riddle, int step, int what) {
        Riddle r = theRiddle(riddle);
        if (r.proof == null || step < 0 || step >= r.proof.size()) {
            throw new NoSuchElementException();
        }
        return r.proof.get(step)[what];
    }

    public int ruleAt(int riddle, int step) {
        return at(riddle, step, 0);
    }

    public int causeAt(int riddle, int step) {
        return at(riddle, step, 1);
    }

    public int takenAt(int riddle, int step) {
        return at(riddle, step, 2);
    }

    private static boolean leans(Riddle r, int rule) {
        boolean leans = false;
        if (r.proof != null) {
            for (int[] step : r.proof) {
                leans |= step[0] == rule;
            }
        }
        return leans;
    }

    private static boolean leans(Issue i, int rule) {
        boolean leans = false;
        for (Riddle r : i.riddles) {
            leans |= leans(r, rule);
        }
        return leans;
    }

    public boolean leansOn(int riddle, int rule) {
        Riddle r = theRiddle(riddle);
        checkRule(rule);
        return leans(r, rule);
    }

    public char state(int riddle) {
        return theRiddle(riddle).state;
    }

    // ---- own rules

    public int rule(char kind, char person, boolean isFirst, int k) {
        argument(kind == 'b' || kind == 'n' || kind == 'l' || kind == 'm');
        argument(person == 'a' || person == 'b' || person == 'c');
        argument(person != 'c' || kind == 'm');
        argument(k >= 1 && k <= 5);
        room(rules.size() < 6);
        Rule r = new Rule();
        r.kind = kind;
        r.person = person;
        r.isFirst = isFirst;
        r.k = k;
        rules.add(r);
        return 9 + rules.size();
    }

    public boolean stands(int rule) {
        checkRule(rule);
        return rule < 10 || !theRule(rule).hasFallen;
    }

    private static List<Integer> counter(Rule rule) {
        for (int persons = 3; persons <= 6; persons++) {
            for (List<Integer> order : orders(persons)) {
                int place = order.get(rule.person - 'a');
                if (fits(new int[] {rule.kind, 0, 1, 2}, order)
                        && isForbidden(rule, place, persons)) {
                    return order;
                }
            }
        }
        return null;
    }

    public int counterexample(int rule) {
        List<Integer> order = counter(theRule(rule));
        if (order == null) {
            throw new NoSuchElementException();
        }
        StringBuilder digits = new StringBuilder().append(order.size());
        for (int place : order) {
            digits.append(place);
        }
        return Integer.parseInt(digits.toString());
    }

    public int fall(int rule) {
        Rule falling = theRule(rule);
        supported(counter(falling) != null && !falling.hasFallen);
        falling.hasFallen = true;
        int recalled = 0;
        for (int n = 0; n < issues.size(); n++) {
            if (issues.get(n).state == 's' && leans(issues.get(n), rule)) {
                recall(n, rule);
                recalled++;
            }
        }
        for (Riddle r : riddles) {
            if (r.state != 's' && leans(r, rule)) {
                see("lost in state " + r.state);
                for (Issue i : issues) {
                    if (i.state == 'm') {
                        i.riddles.remove(r);
                    }
                }
                r.proof = null;
                r.result = 0;
                r.state = 'o';
            }
        }
        return recalled;
    }

    private void recall(int n, int rule) {
        see("recall");
        Issue i = issues.get(n);
        i.state = 'r';
        for (Customer c : customers) {
            if (c.issues.contains(n)) {
                see("paid back");
                money -= i.price;
                c.credits += i.price;
                if (c.credits > 2147483647L) {
                    see("paid back too much");
                    c.credits = 2147483647L;
                }
            }
        }
        for (Riddle r : i.riddles) {
            if (leans(r, rule)) {
                proveIt(r);
                r.state = r.result == 'w' ? 'b' : 'h';
                see("proved anew " + r.state);
            } else {
                see("not leaning, back");
                r.state = 'b';
            }
        }
    }

    // ---- issues

    public int issue() {
        room(issues.size() < 12);
        issues.add(new Issue());
        return issues.size() - 1;
    }

    public int put(int issue, int riddle) {
        Issue i = theIssue(issue);
        Riddle r = theRiddle(riddle);
        supported(i.state == 'm' && (r.state == 'w' || r.state == 'b'));
        room(i.riddles.size() < 4);
        see("put " + r.state);
        r.state = 'i';
        i.riddles.add(r);
        return i.riddles.size();
    }

    public int publish(int issue, int price) {
        Issue i = theIssue(issue);
        argument(price >= 0 && price <= 1000);
        supported(i.state == 'm' && !i.riddles.isEmpty());
        i.state = 's';
        i.price = price;
        for (Riddle r : i.riddles) {
            r.state = 's';
        }
        int count = 0;
        for (Customer c : customers) {
            if (c.left >= 1 && c.credits >= price) {
                see("subscribed");
                c.left--;
                c.credits -= price;
                money += price;
                c.issues.add(issue);
                count++;
            }
        }
        return count;
    }

    public char issueState(int issue) {
        return theIssue(issue).state;
    }

    public int indexed(int rule) {
        checkRule(rule);
        int count = 0;
        for (Issue i : issues) {
            count += i.state == 's' && leans(i, rule) ? 1 : 0;
        }
        return count;
    }

    public int customer() {
        room(customers.size() < 8);
        customers.add(new Customer());
        return customers.size() - 1;
    }

    public int deposit(int customer, int credits) {
        Customer c = theCustomer(customer);
        argument(credits >= 1 && credits <= 2000000000);
        if (c.credits + credits > 2147483647L) {
            throw new ArithmeticException();
        }
        c.credits += credits;
        return (int) c.credits;
    }

    public int subscribe(int customer, int issues) {
        Customer c = theCustomer(customer);
        argument(issues >= 1 && issues <= 12);
        c.left += issues;
        return c.left;
    }

    public int buy(int customer, int issue) {
        Customer c = theCustomer(customer);
        Issue i = theIssue(issue);
        supported(i.state == 's' && !c.issues.contains(issue) && c.credits >= i.price);
        see("bought");
        c.issues.add(issue);
        c.credits -= i.price;
        money += i.price;
        return (int) c.credits;
    }

    public int credits(int customer) {
        return (int) theCustomer(customer).credits;
    }

    public boolean has(int customer, int issue) {
        Customer c = theCustomer(customer);
        theIssue(issue);
        return c.issues.contains(issue);
    }

    public long press() {
        return money;
    }

    public boolean isClean() {
        for (Issue i : issues) {
            for (Riddle r : i.riddles) {
                boolean leansOnOwn = false;
                for (int own = 0; i.state == 's' && own < rules.size(); own++) {
                    leansOnOwn |= leans(r, 10 + own);
                    if (leans(r, 10 + own) && rules.get(own).hasFallen) {
                        return false;
                    }
                }
                if (i.state == 's' && !leansOnOwn && answersOf(r).size() != 1) {
                    return false;
                }
            }
        }
        return true;
    }

    // ---- figures

    private List<Integer> wholeSteps() {
        List<Integer> steps = new ArrayList<>();
        for (Riddle r : riddles) {
            if (r.proof != null && r.result == 'w') {
                steps.add(r.proof.size());
            }
        }
        return steps;
    }

    public float provedShare() {
        if (riddles.isEmpty()) {
            throw new ArithmeticException();
        }
        return (float) wholeSteps().size() / (float) riddles.size();
    }

    public double meanSteps() {
        if (wholeSteps().isEmpty()) {
            throw new ArithmeticException();
        }
        double sum = 0;
        for (int steps : wholeSteps()) {
            sum += steps;
        }
        return sum / wholeSteps().size();
    }
}
