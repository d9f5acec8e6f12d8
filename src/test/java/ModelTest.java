import java.lang.reflect.InvocationTargetException;
import java.lang.reflect.Method;
import java.util.ArrayList;
import java.util.Arrays;
import java.util.List;
import java.util.Map;
import java.util.Random;
import java.util.TreeMap;

/**
 * Long runs of drawn calls, the same ones each time, on a RiddlePress and on a ModelPress: each
 * call answers the same, and so does, from time to time, all that can be asked. Runs of the kind
 * 0 draw any calls, with wrong inputs often; the others draw likely ones, and the kind 3 own
 * rules that are like one another, so that what leans on a fallen one is whole by the next one.
 */
public final class ModelTest {
    private static final int RUNS = 400;
    private static final int CALLS = 400;
    private static final int MOST = Integer.MAX_VALUE;

    private static final Map<String, Method> METHODS = new TreeMap<>();
    private static final Map<String, Method> MODEL_METHODS = new TreeMap<>();
    private static final Map<String, Integer> SEEN = new TreeMap<>();

    private final Random random;
    private final RiddlePress press = new RiddlePress();
    private final ModelPress model = new ModelPress();
    private final List<String> told = new ArrayList<>();
    private boolean isWrong = false;

    private ModelTest(int run) {
        random = new Random(run);
    }

    public static void main(String[] args) {
        for (Method method : RiddlePress.class.getMethods()) {
            METHODS.put(method.getName(), method);
        }
        for (Method method : ModelPress.class.getDeclaredMethods()) {
            if (METHODS.containsKey(method.getName())) {
                method.setAccessible(true);
                MODEL_METHODS.put(method.getName(), method);
            }
        }
        int wrong = 0;
        for (int run = 0; run < RUNS; run++) {
            ModelTest test = new ModelTest(run);
            test.run(run % 4);
            wrong += test.isWrong ? 1 : 0;
        }
        System.out.println(RUNS + " runs, " + wrong + " not as due");
        boolean hasSeenAll = hasSeenAll();
        if (wrong != 0 || !hasSeenAll) {
            System.exit(1);
        }
    }

    /** The runs are of no worth if they don't come to what the document tells. */
    private static boolean hasSeenAll() {
        List<String> due = new ArrayList<>(Arrays.asList("proof w", "proof n", "proof f",
                "held one proved", "lost in state o", "lost in state w", "lost in state i",
                "lost in state b", "lost in state h", "recall", "paid back",
                "paid back too much", "proved anew b", "proved anew h", "not leaning, back",
                "put w", "put b", "subscribed", "bought"));
        for (int rule = 0; rule < 16; rule++) {
            due.add("rule " + rule);
        }
        for (String exception : new String[] {"IndexOutOfBounds", "IllegalArgument",
            "IllegalState", "UnsupportedOperation", "NoSuchElement", "Arithmetic"}) {
            due.add(exception + "Exception");
        }
        boolean isAll = true;
        for (String what : due) {
            if (SEEN.getOrDefault(what, 0) < 3) {
                System.out.println("too seldom: " + what + " " + SEEN.get(what));
                isAll = false;
            }
        }
        return isAll;
    }

    private void run(int kindOfRun) {
        for (int i = 0; i < CALLS && !isWrong; i++) {
            boolean hasThrown = kindOfRun == 0 ? callAny() : callLikely(kindOfRun);
            if (!isWrong && (hasThrown ? random.nextInt(8) == 0 : random.nextInt(16) == 0)) {
                compareAll();
            }
        }
        if (!isWrong) {
            compareAll();
        }
        model.seen.forEach((what, count) -> SEEN.merge(what, count, Integer::sum));
    }

    // ---- comparing

    private static String outcome(Object object, Map<String, Method> methods, String name,
            Object[] args) {
        try {
            return String.valueOf(methods.get(name).invoke(object, args));
        } catch (InvocationTargetException e) {
            boolean isOfMachine = object instanceof RiddlePress
                    && !Due.isThrownByPress(e.getCause());
            return (isOfMachine ? "machine throws." : "throws.")
                    + e.getCause().getClass().getSimpleName();
        } catch (IllegalAccessException e) {
            return "no access to " + name;
        }
    }

    /** Returns whether the call threw. */
    private boolean call(String name, Object... args) {
        String due = outcome(model, MODEL_METHODS, name, args);
        String got = outcome(press, METHODS, name, args);
        String call = name + Arrays.toString(args) + " = " + due;
        told.add(call);
        if (!due.equals(got) && !isWrong) {
            isWrong = true;
            System.out.println("after " + told.subList(Math.max(0, told.size() - 40), told.size()));
            System.out.println(call + " is due, answered " + got);
        }
        if (due.startsWith("throws.")) {
            SEEN.merge(due.substring("throws.".length()), 1, Integer::sum);
            return true;
        }
        return false;
    }

    private void compareAll() {
        int length = told.size();
        for (int riddle = 0; riddle < model.riddles.size(); riddle++) {
            compareRiddle(riddle);
        }
        for (int rule = -1; rule <= 10 + model.rules.size(); rule++) {
            call("stands", rule);
            call("indexed", rule);
            call("counterexample", rule);
        }
        for (int issue = 0; issue < model.issues.size(); issue++) {
            call("issueState", issue);
        }
        for (int customer = 0; customer < model.customers.size(); customer++) {
            call("credits", customer);
            for (int issue = 0; issue < model.issues.size(); issue++) {
                call("has", customer, issue);
            }
        }
        for (String figure : new String[] {"press", "isClean", "provedShare", "meanSteps"}) {
            call(figure);
        }
        told.subList(length, told.size()).clear();
    }

    private void compareRiddle(int riddle) {
        ModelPress.Riddle r = model.riddles.get(riddle);
        call("state", riddle);
        call("steps", riddle);
        call("answers", riddle);
        for (int person = 0; person <= r.persons; person++) {
            call("answer", riddle, person);
        }
        for (int step = -1; step <= (r.proof == null ? 0 : r.proof.size()); step++) {
            call("ruleAt", riddle, step);
            call("causeAt", riddle, step);
            call("takenAt", riddle, step);
        }
        for (int rule = 0; rule < 10 + model.rules.size(); rule++) {
            call("leansOn", riddle, rule);
        }
    }

    // ---- what calls are drawn of

    /** Most often a riddle in one of the states, if there is one. */
    private int riddleIn(String states) {
        List<Integer> found = new ArrayList<>();
        for (int riddle = 0; riddle < model.riddles.size(); riddle++) {
            if (states.indexOf(model.riddles.get(riddle).state) >= 0) {
                found.add(riddle);
            }
        }
        return found.isEmpty() || random.nextInt(8) == 0 ? number(model.riddles.size())
                : found.get(random.nextInt(found.size()));
    }

    /** Most often an issue in the state, if there is one. */
    private int issueIn(char state) {
        List<Integer> found = new ArrayList<>();
        for (int issue = 0; issue < model.issues.size(); issue++) {
            if (state == model.issues.get(issue).state) {
                found.add(issue);
            }
        }
        return found.isEmpty() || random.nextInt(8) == 0 ? number(model.issues.size())
                : found.get(random.nextInt(found.size()));
    }

    private int draw(int least, int most) {
        return least + random.nextInt(most - least + 1);
    }

    private int number(int count) {
        int[] edges = {-1, count, count + 1, 20, 32, MOST, Integer.MIN_VALUE};
        return random.nextInt(6) == 0 || count == 0 ? edges[random.nextInt(edges.length)]
                : random.nextInt(count);
    }

    private char oneOf(String signs) {
        return random.nextInt(16) == 0 ? (char) random.nextInt(65536)
                : signs.charAt(random.nextInt(signs.length()));
    }

    // ---- any calls, with wrong inputs often

    private boolean callAny() {
        String[] names = METHODS.keySet().toArray(new String[0]);
        String name = names[random.nextInt(names.length)];
        if (!MODEL_METHODS.containsKey(name)) {
            return false;
        }
        int riddle = number(model.riddles.size());
        int issue = number(model.issues.size());
        int customer = number(model.customers.size());
        int rule = random.nextBoolean() ? number(10) : number(10 + model.rules.size());
        switch (name) {
            case "riddle":
                return call(name, draw(2, 7));
            case "clue":
                return call(name, riddle, oneOf("pxbnldmq"), draw(-1, 6), draw(-1, 6), draw(-1, 6));
            case "answer":
            case "ruleAt":
            case "causeAt":
            case "takenAt":
                return call(name, riddle, draw(-1, 9));
            case "leansOn":
                return call(name, riddle, rule);
            case "rule":
                return call(name, oneOf("bnlmp"), oneOf("abcd"), random.nextBoolean(), draw(0, 6));
            case "put":
                return call(name, issue, riddle);
            case "publish":
                return call(name, issue, draw(-1, 1) * draw(0, 1001));
            case "deposit":
                return call(name, customer, random.nextBoolean() ? draw(-1, 50) : number(MOST));
            case "subscribe":
                return call(name, customer, draw(-1, 14));
            case "buy":
            case "has":
                return call(name, customer, issue);
            case "credits":
                return call(name, customer);
            case "issueState":
                return call(name, issue);
            case "stands":
            case "counterexample":
            case "fall":
            case "indexed":
                return call(name, rule);
            default:
                return METHODS.get(name).getParameterCount() == 0 ? call(name)
                        : call(name, riddle);
        }
    }

    // ---- calls that lead on: riddles with answers, false rules, issues, falls

    private boolean callLikely(int kindOfRun) {
        int riddles = model.riddles.size();
        int drawn = random.nextInt(100);
        if (drawn < 8 && riddles < 21) {
            return addRiddle(kindOfRun);
        }
        if (drawn < 10) {
            return kindOfRun == 3 ? call("rule", 'b', 'a', true, draw(1, 9) / 8 + 1)
                    : call("rule", oneOf("bbnlm"), oneOf("aabbc"), random.nextBoolean(), draw(1, 2));
        }
        if (drawn < 32) {
            return call("prove", random.nextInt(3) == 0 ? riddleIn("h") : number(riddles));
        }
        if (drawn < 36) {
            return call("issue");
        }
        if (drawn < 58) {
            return call("put", issueIn('m'), riddleIn("wb"));
        }
        if (drawn < 64) {
            return call("publish", issueIn('m'), draw(0, 5) * draw(0, 200));
        }
        if (drawn < 66 && model.rules.size() > 0) {
            return call("fall", 9 + draw(1, model.rules.size()));
        }
        if (drawn < 70) {
            return call("clue", number(riddles), oneOf("pxbnldm"), draw(0, 2), draw(0, 2), 1);
        }
        if (drawn < 72) {
            return callAny();
        }
        return callCustomer(drawn);
    }

    private boolean callCustomer(int drawn) {
        int customer = number(model.customers.size());
        if (drawn < 76) {
            return call("customer");
        }
        if (drawn < 80) {
            return call("deposit", customer, random.nextInt(3) == 0 ? 2000000000 : draw(1, 900));
        }
        if (drawn < 83 && customer >= 0 && customer < model.customers.size()) {
            int room = MOST - (int) model.customers.get(customer).credits;
            return call("deposit", customer, Math.max(1, Math.min(2000000000, room)));
        }
        if (drawn < 86) {
            return call("subscribe", customer, draw(1, 12));
        }
        return call("buy", customer, issueIn('s'));
    }

    /** Most clues are true of a drawn order, so that many proofs are whole. */
    private boolean addRiddle(int kindOfRun) {
        int persons = draw(3, kindOfRun == 2 ? 6 : kindOfRun == 3 ? 3 : 4);
        if (call("riddle", persons)) {
            return true;
        }
        int riddle = model.riddles.size() - 1;
        List<Integer> order = new ArrayList<>();
        for (int place = 0; place < persons; place++) {
            order.add(random.nextInt(order.size() + 1), place);
        }
        int clues = draw(1, kindOfRun == 3 ? 2 : 9);
        for (int i = 0; i < clues; i++) {
            addClue(riddle, order, random.nextInt(24) == 0);
        }
        return call("prove", riddle);
    }

    private void addClue(int riddle, List<Integer> order, boolean isAnyClue) {
        for (int tries = 0; tries < 50; tries++) {
            char kind = "pxbbbnnlldmm".charAt(random.nextInt(12));
            int a = random.nextInt(order.size());
            int b = random.nextInt(order.size());
            int c = random.nextInt(order.size());
            boolean isTrue = a != b && isTrue(kind, order.get(a), order.get(b), order.get(c), b, c);
            if (isAnyClue || isTrue) {
                call("clue", riddle, kind, a, b, c);
                return;
            }
        }
    }

    private static boolean isTrue(char kind, int a, int b, int c, int place, int k) {
        switch (kind) {
            case 'p':
                return a == place;
            case 'x':
                return a != place;
            case 'b':
                return a < b;
            case 'n':
                return Math.abs(a - b) == 1;
            case 'l':
                return a + 1 == b;
            case 'd':
                return Math.abs(a - b) == k;
            default:
                return (a - c) * (c - b) > 0;
        }
    }
}
