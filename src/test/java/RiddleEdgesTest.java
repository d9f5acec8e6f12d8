/**
 * The limits of riddles, clues and answers ("Terms", "Riddles"; promises 1 to 5): a test for each
 * sentence of the document that names one.
 */
public final class RiddleEdgesTest {
    private static final int MOST = Integer.MAX_VALUE;
    private static final int LEAST = Integer.MIN_VALUE;
    private static final String KINDS = "pxbnldm";

    public static void main(String[] args) {
        callsOfAnObject();
        callsOfTheDearestKind();
        newObject();
        mostRiddles();
        personsOfARiddle();
        numbersOfPersonsAndPlaces();
        onePlaceForEach();
        mostClues();
        numbersOfClues();
        placesOfP();
        placesOfX();
        pairsOfPlaces();
        placesBetween();
        noClueAndAllClues();
        riddleRange();
        clueNoSuchRiddle();
        clueNoSuchKind();
        clueNoSuchPersonOrPlace();
        clueRangeOfK();
        clueSamePersons();
        clueOfNoMeaning();
        clueAfterAProof();
        clueFull();
        answersNoSuchRiddle();
        answersAtTheLimits();
        answerNoSuchPerson();
        answerNone();
        answerFirst();
        Due.end();
    }

    // ---- the object

    private static void callsOfAnObject() {
        Due.says("An object is used for at most 512 calls after it has been made");
        RiddlePress x = new RiddlePress();
        x.customer();
        for (int call = 2; call < 512; call++) {
            x.deposit(0, 1);
        }
        Due.is("the 512th", 510, () -> x.credits(0));
        RiddlePress y = new RiddlePress();
        y.customer();
        for (int call = 2; call < 512; call++) {
            y.subscribe(0, 12);
        }
        Due.is("the 512th", 12 * 511, () -> y.subscribe(0, 12));
    }

    private static void callsOfTheDearestKind() {
        Due.says("An object is used for at most 512 calls after it has been made");
        RiddlePress x = new RiddlePress();
        Told.rule(x, "maf1");
        for (int riddle = 0; riddle < 20; riddle++) {
            Told.riddle(x, 6, "m215", "b341", "l212", "n240", "b312", "l302", "l504", "m012");
        }
        for (int call = 182; call < 512; call++) {
            int riddle = call % 20;
            Due.is("prove, call " + call, 'f', () -> x.prove(riddle));
        }
        Due.is("the 512th", 0, () -> x.answers(19));
        RiddlePress y = Told.press(6);
        for (int call = 2; call <= 512; call++) {
            Due.is("answers, call " + call, 720, () -> y.answers(0));
        }
    }

    private static void newObject() {
        Due.says("Creates a press without riddles, issues and customers");
        RiddlePress x = new RiddlePress();
        Due.is("no riddle 0", Due.INDEX, () -> x.state(0));
        Due.is("no issue 0", Due.INDEX, () -> x.issueState(0));
        Due.is("no customer 0", Due.INDEX, () -> x.credits(0));
        Due.is("no own rule 10", Due.INDEX, () -> x.counterexample(10));
        Due.is("a rule 9", true, () -> x.stands(9));
        Due.is("nothing leans on it", 0, () -> x.indexed(9));
        Due.is("nothing in it", 0L, x::press);
        Due.is("clean", true, x::isClean);
        Due.is("no share", Due.ARITHMETIC, x::provedShare);
        Due.is("no mean", Due.ARITHMETIC, x::meanSteps);
    }

    // ---- riddles

    private static void mostRiddles() {
        Due.says("At most 20 riddles have numbers from 0 on");
        RiddlePress x = new RiddlePress();
        for (int riddle = 0; riddle < 20; riddle++) {
            int number = riddle;
            Due.is("not yet there", Due.INDEX, () -> x.state(number));
            Due.is("its number", number, () -> x.riddle(6));
            Due.is("there", 'o', () -> x.state(number));
        }
        Due.says("Throws `IllegalStateException` if there are 20 riddles");
        for (int persons = 3; persons <= 6; persons++) {
            int count = persons;
            Due.is("a 21st", Due.STATE, () -> x.riddle(count));
        }
        Due.is("it is not there", Due.INDEX, () -> x.state(20));
        Due.is("the 20th is", 720, () -> x.answers(19));
    }

    private static void personsOfARiddle() {
        Due.says("A riddle has 3 to 6 persons");
        int[] answers = {6, 24, 120, 720};
        for (int persons = 3; persons <= 6; persons++) {
            RiddlePress x = Told.press(persons);
            int count = persons;
            Due.is("answers of " + count, answers[count - 3], () -> x.answers(0));
            Due.is("last of " + count, count - 1, () -> x.answer(0, count - 1));
            Due.is("one more than " + count, Due.INDEX, () -> x.answer(0, count));
        }
    }

    private static void riddleRange() {
        Due.says("Throws `IllegalArgumentException` if it is out of range");
        for (int persons : new int[] {2, 7, 1, 0, -1, -3, -6, 259, MOST, LEAST}) {
            RiddlePress x = new RiddlePress();
            Due.is("persons " + persons, Due.ARGUMENT, () -> x.riddle(persons));
            Due.is("none added", Due.INDEX, () -> x.state(0));
        }
        RiddlePress x = new RiddlePress();
        Due.is("least", 0, () -> x.riddle(3));
        Due.is("most", 1, () -> x.riddle(6));
    }

    private static void numbersOfPersonsAndPlaces() {
        Due.says("numbered from 0, who stand in as many places, numbered from 0 from the left");
        for (int n = 3; n <= 6; n++) {
            int persons = n;
            RiddlePress x = Told.press(n);
            Due.is("first person, first place", 1, () -> x.clue(0, 'p', 0, 0, 0));
            int last = n - 1;
            Due.is("last person, last place", 2, () -> x.clue(0, 'p', last, last, 0));
            Due.is("no person", Due.ARGUMENT, () -> x.clue(0, 'p', persons, 0, 0));
            Due.is("no place", Due.ARGUMENT, () -> x.clue(0, 'p', 0, persons, 0));
            Due.is("the first is first", 0, () -> x.answer(0, 0));
            Due.is("the last is last", last, () -> x.answer(0, last));
            RiddlePress y = Told.press(n, "l" + (n - 1) + "0");
            Due.is("from the left", 0, () -> y.answer(0, last) - y.answer(0, 0) + 1);
        }
    }

    private static void onePlaceForEach() {
        Due.says("one in each");
        for (int n = 3; n <= 6; n++) {
            for (int place = 0; place < n; place++) {
                RiddlePress x = Told.press(n, "p0" + place, "p" + (n - 1) + place);
                Due.is("two in the place " + place, 0, () -> x.answers(0));
            }
        }
    }

    private static void mostClues() {
        Due.says("at most 8 clues");
        for (char kind : KINDS.toCharArray()) {
            RiddlePress x = Told.press(6);
            for (int clues = 1; clues <= 8; clues++) {
                Due.is("how many, " + kind, clues, () -> x.clue(0, kind, 0, 1, 2));
            }
            int answers = x.answers(0);
            for (char other : KINDS.toCharArray()) {
                Due.is("a ninth, " + other, Due.STATE, () -> x.clue(0, other, 5, 4, 3));
            }
            Due.is("it is no clue", answers, () -> x.answers(0));
        }
    }

    private static void numbersOfClues() {
        Due.says("clues, numbered from 0");
        for (int clue = 0; clue < 8; clue++) {
            RiddlePress x = Told.press(4);
            for (int i = 0; i < 8; i++) {
                Told.clue(x, 0, i == clue ? "p12" : "d013");
            }
            int number = clue;
            Due.is("failed", 'f', () -> x.prove(0));
            Due.is("by the clue " + clue, number, () -> x.causeAt(0, 0));
        }
    }

    // ---- kinds of clues

    private static void placesOfP() {
        Due.says("'p' the person a stands in the place k");
        int[] others = {2, 6, 24, 120};
        for (int n = 3; n <= 6; n++) {
            for (int place = 0; place < n; place++) {
                for (int a = 0; a < n; a += n - 1) {
                    RiddlePress x = Told.press(n, "p" + a + place);
                    int due = place;
                    int person = a;
                    Due.is("p" + a + place, others[n - 3], () -> x.answers(0));
                    Due.is("p" + a + place, due, () -> x.answer(0, person));
                }
            }
        }
    }

    private static void placesOfX() {
        Due.says("'x' a does not stand in the place k");
        int[] others = {2, 6, 24, 120};
        for (int n = 3; n <= 6; n++) {
            for (int place = 0; place < n; place++) {
                RiddlePress x = Told.press(n, "x0" + place);
                int due = (n - 1) * others[n - 3];
                Due.is("x0" + place, due, () -> x.answers(0));
                RiddlePress y = Told.press(n, "x0" + place, "p0" + place);
                Due.is("x0" + place + " after all", 0, () -> y.answers(0));
            }
        }
    }

    /** All places of a and b: whether they fit the clue, the first and last places too. */
    private static void pairsOfPlaces() {
        for (int n = 3; n <= 6; n++) {
            for (int i = 0; i < n; i++) {
                for (int j = 0; j < n; j++) {
                    if (i != j) {
                        pairOfPlaces(n, i, j);
                    }
                }
            }
        }
    }

    private static void pairOfPlaces(int n, int i, int j) {
        Due.says("'b' a stands left of b");
        pairFits(n, i, j, "b01", i < j);
        Due.says("'n' a stands next to b");
        pairFits(n, i, j, "n01", i == j + 1 || j == i + 1);
        Due.says("'l' a stands next to b and left of it");
        pairFits(n, i, j, "l01", j == i + 1);
        Due.says("'d' there are k steps between the places of a and b");
        for (int k = 1; k <= 5; k++) {
            pairFits(n, i, j, "d01" + k, i == j + k || j == i + k);
        }
    }

    private static void pairFits(int n, int i, int j, String clue, boolean fits) {
        int[] others = {1, 2, 6, 24};
        RiddlePress x = Told.press(n, "p0" + i, clue, "p1" + j);
        Due.is(clue + " by " + i + " and " + j, fits ? others[n - 3] : 0, () -> x.answers(0));
        RiddlePress y = Told.press(n, "p" + (n - 1) + i, "p" + (n - 2) + j,
                "" + clue.charAt(0) + (n - 1) + (n - 2) + clue.substring(3));
        Due.is(clue + " of the last two", fits ? others[n - 3] : 0, () -> y.answers(0));
    }

    private static void placesBetween() {
        Due.says("'m' c stands between a and b, somewhere");
        int[] others = {1, 1, 2, 6};
        for (int n = 3; n <= 6; n++) {
            for (int code = 0; code < n * n * n; code++) {
                int i = code / (n * n);
                int j = code / n % n;
                int k = code % n;
                if (i != j && j != k && i != k) {
                    RiddlePress x = Told.press(n, "m012", "p0" + i, "p1" + j, "p2" + k);
                    boolean isBetween = i < k && k < j || j < k && k < i;
                    int due = isBetween ? others[n - 3] : 0;
                    Due.is("" + i + j + k + " of " + n, due, () -> x.answers(0));
                }
            }
        }
    }

    private static void noClueAndAllClues() {
        Due.says("An answer is an order that fits all clues");
        Due.is("no clue", 120, () -> Told.press(5).answers(0));
        for (int clue = 0; clue < 8; clue++) {
            RiddlePress x = Told.press(5);
            for (int i = 0; i < 8; i++) {
                Told.clue(x, 0, i == clue ? "p04" : "x00");
            }
            Due.is("one of the clues, " + clue, 24, () -> x.answers(0));
            Due.is("by the clue " + clue, 4, () -> x.answer(0, 0));
        }
    }

    // ---- promise 3

    private static void clueNoSuchRiddle() {
        Due.says("clue: Throws `IndexOutOfBoundsException` if there is no such riddle");
        RiddlePress x = new RiddlePress();
        for (int riddle : new int[] {0, 1, -1, 20, MOST, LEAST}) {
            Due.is("of none, " + riddle, Due.INDEX, () -> x.clue(riddle, 'p', 0, 0, 0));
        }
        Told.riddles(x, 20);
        for (int riddle : new int[] {-1, 20, MOST, LEAST}) {
            Due.is("of 20, " + riddle, Due.INDEX, () -> x.clue(riddle, 'p', 0, 0, 0));
        }
        Due.is("the last one", 1, () -> x.clue(19, 'p', 0, 0, 0));
    }

    private static void clueNoSuchKind() {
        Due.says("if there is no such kind");
        for (int kind = 0; kind < 65536; kind += kind < 400 ? 1 : 1009) {
            RiddlePress x = Told.press(4);
            char tried = (char) kind;
            Object due = KINDS.indexOf(tried) < 0 ? Due.ARGUMENT : (Object) 1;
            Due.is("kind " + kind, due, () -> x.clue(0, tried, 0, 1, 2));
        }
    }

    private static void clueNoSuchPersonOrPlace() {
        Due.says("if there is no such .. person or place");
        for (int n = 3; n <= 6; n++) {
            RiddlePress x = Told.press(n);
            for (int wrong : new int[] {-1, n, n + 1, 6, MOST, LEAST}) {
                for (char kind : KINDS.toCharArray()) {
                    String what = kind + " of " + n + ", " + wrong;
                    Due.is("a: " + what, Due.ARGUMENT, () -> x.clue(0, kind, wrong, 1, 2));
                    Due.is("b: " + what, Due.ARGUMENT, () -> x.clue(0, kind, 1, wrong, 2));
                }
                Due.is("c: " + wrong, Due.ARGUMENT, () -> x.clue(0, 'm', 0, 1, wrong));
            }
            int last = n - 1;
            Due.is("the last as c", 1, () -> x.clue(0, 'm', 0, 1, last));
            Due.is("the last as b", 2, () -> x.clue(0, 'b', 0, last, 0));
            Due.is("the last as a", 3, () -> x.clue(0, 'n', last, 0, 0));
            Due.is("the last two", 4, () -> x.clue(0, 'l', last, last - 1, 0));
        }
    }

    private static void clueRangeOfK() {
        Due.says("k is out of range");
        for (int n = 3; n <= 6; n++) {
            RiddlePress x = Told.press(n);
            for (int k : new int[] {0, 6, -1, -5, 7, 257, MOST, LEAST}) {
                Due.is("k " + k, Due.ARGUMENT, () -> x.clue(0, 'd', 0, 1, k));
            }
            for (int k = 1; k <= 5; k++) {
                int steps = k;
                Due.is("of " + n + " persons, k " + k, k, () -> x.clue(0, 'd', 0, 1, steps));
            }
        }
    }

    private static void clueSamePersons() {
        Due.says("or two persons are the same");
        RiddlePress x = Told.press(6);
        for (int person = 0; person < 6; person++) {
            int same = person;
            int other = (person + 1) % 6;
            for (char kind : "bnldm".toCharArray()) {
                Due.is(kind + " a, b " + same, Due.ARGUMENT,
                        () -> x.clue(0, kind, same, same, kind == 'm' ? other : 1));
            }
            Due.is("a, c " + same, Due.ARGUMENT, () -> x.clue(0, 'm', same, other, same));
            Due.is("b, c " + same, Due.ARGUMENT, () -> x.clue(0, 'm', other, same, same));
            Due.is("all " + same, Due.ARGUMENT, () -> x.clue(0, 'm', same, same, same));
        }
        Due.is("a person and a place may be", 1, () -> x.clue(0, 'p', 5, 5, 5));
        Due.is("a person and no place may be", 2, () -> x.clue(0, 'x', 0, 0, 0));
        Due.is("a person and k may be", 3, () -> x.clue(0, 'd', 1, 2, 1));
        Due.is("a person and k may be", 4, () -> x.clue(0, 'd', 2, 1, 1));
    }

    private static void clueOfNoMeaning() {
        Due.says("of no meaning for others");
        for (char kind : "pxbnl".toCharArray()) {
            for (int c : new int[] {-1, 0, 1, 3, 6, MOST, LEAST}) {
                RiddlePress x = Told.press(3);
                Due.is(kind + " with c " + c, 1, () -> x.clue(0, kind, 0, 1, c));
                int answers = Told.press(3, kind + "01").answers(0);
                Due.is(kind + " with c " + c, answers, () -> x.answers(0));
            }
        }
    }

    private static void clueAfterAProof() {
        Due.says("Throws `UnsupportedOperationException` if it has a proof, whole or not");
        String[] clues = {"l01", "l02", "b01"};
        char[] proofs = {'w', 'f', 'n'};
        for (int i = 0; i < 3; i++) {
            RiddlePress x = Told.press(3, "l12", clues[i]);
            char due = proofs[i];
            Due.is("without a proof", 3, () -> x.clue(0, 'x', 2, 0, 0));
            Due.is("proof " + due, i == 2 ? 'w' : due, () -> x.prove(0));
            Due.is("with one, " + due, Due.UNSUPPORTED, () -> x.clue(0, 'x', 2, 0, 0));
        }
        RiddlePress x = Told.press(3);
        Due.is("without a step", 'n', () -> x.prove(0));
        Due.is("a proof without a step is one", Due.UNSUPPORTED, () -> x.clue(0, 'x', 2, 0, 0));
    }

    private static void clueFull() {
        Due.says("Throws `IllegalStateException` if it has 8");
        RiddlePress x = Told.press(3, "x02", "x02", "x02", "x02", "x02", "x02", "x02");
        Told.riddle(x, 3);
        Due.is("the eighth", 8, () -> x.clue(0, 'x', 0, 2, 0));
        Due.is("the ninth", Due.STATE, () -> x.clue(0, 'x', 0, 2, 0));
        Due.is("the first of another one", 1, () -> x.clue(1, 'x', 0, 2, 0));
        x.prove(0);
        Due.is("with a proof", Due.UNSUPPORTED, () -> x.clue(0, 'x', 0, 2, 0));
    }

    // ---- promises 4 and 5

    private static void answersNoSuchRiddle() {
        Due.says("answers: Throws `IndexOutOfBoundsException` if there is no such riddle");
        RiddlePress x = new RiddlePress();
        for (int riddle : new int[] {0, -1, 1, 20, MOST, LEAST}) {
            Due.is("of none, " + riddle, Due.INDEX, () -> x.answers(riddle));
        }
        Told.riddles(x, 20);
        for (int riddle : new int[] {-1, 20, MOST, LEAST}) {
            Due.is("of 20, " + riddle, Due.INDEX, () -> x.answers(riddle));
        }
        Due.is("the last one", 6, () -> x.answers(19));
    }

    private static void answersAtTheLimits() {
        Due.says("Returns how many answers a riddle has, all orders tried");
        RiddlePress x = Told.press(6);
        Due.is("all", 720, () -> x.answers(0));
        Due.is("asked again", 720, () -> x.answers(0));
        Told.clue(x, 0, "b54");
        Due.is("a clue more", 360, () -> x.answers(0));
        for (String clue : new String[] {"l54", "l43", "l32", "l21", "l10"}) {
            Told.clue(x, 0, clue);
        }
        Due.is("one, and this the last order", 1, () -> x.answers(0));
        Due.is("the last order", "543210", () -> Told.answer(x, 0, 6));
        Told.clue(x, 0, "x50");
        Due.is("none", 0, () -> x.answers(0));
        Due.is("with a proof", 'f', () -> x.prove(0));
        Due.is("none with it", 0, () -> x.answers(0));
    }

    private static void answerNoSuchPerson() {
        Due.says("answer: Throws `IndexOutOfBoundsException` if there is no such riddle or person");
        for (int n = 3; n <= 6; n++) {
            RiddlePress x = Told.press(n);
            RiddlePress none = Told.press(n, "p00", "x00");
            for (int person : new int[] {-1, n, 6, MOST, LEAST}) {
                Due.is("person " + person, Due.INDEX, () -> x.answer(0, person));
                Due.is("without an answer", Due.INDEX, () -> none.answer(0, person));
            }
            for (int riddle : new int[] {-1, 1, 20, MOST, LEAST}) {
                Due.is("riddle " + riddle, Due.INDEX, () -> x.answer(riddle, 0));
            }
        }
    }

    private static void answerNone() {
        Due.says("Throws `NoSuchElementException` if there is no answer");
        RiddlePress x = Told.press(6, "p00", "x00");
        for (int person = 0; person < 6; person++) {
            int asked = person;
            Due.is("person " + person, Due.NO_ELEMENT, () -> x.answer(0, asked));
        }
    }

    private static void answerFirst() {
        Due.says("the first answer, by the places of the persons 0, 1 and so on");
        Due.is("of all", "012345", () -> Told.answer(Told.press(6), 0, 6));
        Due.is("of two, by the last difference", "012354",
                () -> Told.answer(Told.press(6, "p00", "p11", "p22", "p33", "x44"), 0, 6));
        Due.is("of many", "123450", () -> Told.answer(Told.press(6, "p50"), 0, 6));
        Due.is("0 as far left as can be", "1032",
                () -> Told.answer(Told.press(4, "b10", "d031"), 0, 4));
        Due.is("then 1", "0213", () -> Told.answer(Told.press(4, "x11"), 0, 4));
    }
}
