/**
 * The limits of proofs ("Terms", "Proofs"; promises 6 to 12): a test for each sentence of the
 * document that names one.
 */
public final class ProofEdgesTest {
    private static final int MOST = Integer.MAX_VALUE;
    private static final int LEAST = Integer.MIN_VALUE;

    public static void main(String[] args) {
        beginning();
        ruleZero();
        ruleOne();
        rulesOfTwoPersons();
        ruleSix();
        ruleSeven();
        ruleEight();
        ruleNine();
        secondPartByNothing();
        firstRuleByNumbers();
        firstRulesOfPlaces();
        ownRulesComeLast();
        firstOfItsClues();
        firstPersonPlaceAndPair();
        againFromRuleZero();
        failedAtOnce();
        wholeAndNotWhole();
        longest();
        proveInPlace();
        proveOfAHeldOne();
        proveInAnIssue();
        proveNoSuchRiddle();
        steps();
        noSuchStep();
        noProof();
        leansOn();
        leansOnNoSuchRule();
        states();
        stateNoSuchRiddle();
        Due.end();
    }

    private static void proof(RiddlePress x, char due, String steps) {
        Due.is("proof " + steps, due, () -> x.prove(0));
        Due.is("proof " + due, steps, () -> Told.steps(x, 0));
    }

    private static RiddlePress proved(int persons, String... clues) {
        RiddlePress x = Told.press(persons, clues);
        x.prove(0);
        return x;
    }

    // ---- rules

    private static void beginning() {
        Due.says("A proof begins with all places for each person");
        for (int n = 3; n <= 6; n++) {
            proof(Told.press(n), 'n', "");
            for (int person = 0; person < n; person++) {
                RiddlePress x = Told.press(n, "p" + person + "0");
                int all = n - 1;
                x.prove(0);
                Due.is("all but one of person " + person, all, () -> x.takenAt(0, 0));
                Due.is("one of each other", all, () -> x.takenAt(0, 1));
                Due.is("proved again, all again", 'n', () -> x.prove(0));
                Due.is("all but one again", all, () -> x.takenAt(0, 0));
            }
        }
    }

    private static void ruleZero() {
        Due.says("0, for 'p': a has the place k alone");
        proof(Told.press(3, "p00"), 'n', "0:0:2 7:0:2 ");
        proof(Told.press(6, "p55"), 'n', "0:0:5 7:5:5 ");
        proof(Told.press(4, "p00", "p00"), 'n', "0:0:3 7:0:3 ");
        proof(Told.press(4, "p00", "p01"), 'f', "0:0:3 0:1:1 ");
        proof(Told.press(4, "p00", "p03"), 'f', "0:0:3 0:1:1 ");
    }

    private static void ruleOne() {
        Due.says("1, for 'x': a has not the place k");
        proof(Told.press(3, "x00"), 'n', "1:0:1 ");
        proof(Told.press(6, "x55"), 'n', "1:0:1 ");
        proof(Told.press(4, "x00", "x00"), 'n', "1:0:1 ");
        proof(Told.press(4, "p01", "x00"), 'n', "0:0:3 7:0:3 ");
        proof(Told.press(3, "x00", "x02", "x01"), 'f', "1:0:1 1:1:1 1:2:1 ");
    }

    /** All places that two persons can have left, made by 'x' clues, then the clue of them. */
    private static void rulesOfTwoPersons() {
        for (int n = 3; n <= 6; n++) {
            for (int a = 1; a < 1 << n; a++) {
                for (int b = 1; b < 1 << n; b++) {
                    if (2 * n - Integer.bitCount(a) - Integer.bitCount(b) <= 7) {
                        clueOfTwo(n, a, b);
                    }
                }
            }
        }
    }

    private static void clueOfTwo(int n, int a, int b) {
        Due.says("2, for 'b'");
        taken(n, a, b, "b01", 2, takenByB(n, a, b));
        Due.says("3, for 'n'");
        taken(n, a, b, "n01", 3, takenByD(n, a, b, 1));
        Due.says("4, for 'l'");
        taken(n, a, b, "l01", 4, takenByL(n, a, b));
        Due.says("5, for 'd'");
        for (int k = 1; k <= 5; k++) {
            taken(n, a, b, "d01" + k, 5, takenByD(n, a, b, k));
        }
    }

    private static void taken(int n, int a, int b, String clue, int rule, int due) {
        RiddlePress x = Told.press(n);
        int crosses = cross(x, n, 0, a) + cross(x, n, 1, b);
        Told.clue(x, 0, clue);
        x.prove(0);
        String what = clue + " of " + n + " by " + a + " and " + b;
        isStep(x, what, crosses, rule, due);
    }

    /** The step after the crosses is by the clue after them, or, if none is due, another one. */
    private static void isStep(RiddlePress x, String what, int crosses, int rule, int due) {
        if (due == 0) {
            Due.is(what, false, () -> x.steps(0) > crosses && x.ruleAt(0, crosses) <= rule);
        } else {
            Due.is("rule: " + what, rule, () -> x.ruleAt(0, crosses));
            Due.is("cause: " + what, crosses, () -> x.causeAt(0, crosses));
            Due.is("taken: " + what, due, () -> x.takenAt(0, crosses));
        }
    }

    private static int cross(RiddlePress x, int n, int person, int places) {
        int count = 0;
        for (int place = 0; place < n; place++) {
            if (!has(places, place)) {
                x.clue(0, 'x', person, place, 0);
                count++;
            }
        }
        return count;
    }

    private static boolean has(int places, int place) {
        return place >= 0 && place < 6 && (places >> place) % 2 == 1;
    }

    private static int takenByB(int n, int a, int b) {
        int last = -1;
        for (int j = 0; j < n; j++) {
            last = has(b, j) ? j : last;
        }
        int taken = 0;
        int first = n;
        for (int i = n - 1; i >= 0; i--) {
            taken += has(a, i) && i >= last ? 1 : 0;
            first = has(a, i) && i < last ? i : first;
        }
        for (int j = 0; j < n; j++) {
            taken += has(b, j) && j <= first ? 1 : 0;
        }
        return taken;
    }

    private static int takenByD(int n, int a, int b, int k) {
        int taken = 0;
        int left = 0;
        for (int i = 0; i < n; i++) {
            boolean stays = has(b, i - k) || has(b, i + k);
            left += has(a, i) && stays ? 1 << i : 0;
            taken += has(a, i) && !stays ? 1 : 0;
        }
        for (int j = 0; j < n; j++) {
            taken += has(b, j) && !has(left, j - k) && !has(left, j + k) ? 1 : 0;
        }
        return taken;
    }

    private static int takenByL(int n, int a, int b) {
        int taken = 0;
        int left = 0;
        for (int i = 0; i < n; i++) {
            left += has(a, i) && has(b, i + 1) ? 1 << i : 0;
            taken += has(a, i) && !has(b, i + 1) ? 1 : 0;
        }
        for (int j = 0; j < n; j++) {
            taken += has(b, j) && !has(left, j - 1) ? 1 : 0;
        }
        return taken;
    }

    /** All places that a and b can have left, and all or all but one for c. */
    private static void ruleSix() {
        Due.says("6, for 'm': c keeps a place only if one of a and b has a place left of it, "
                + "and the other one has a place right of it");
        for (int n = 3; n <= 6; n++) {
            for (int a = 1; a < 1 << n; a++) {
                for (int b = 1; b < 1 << n; b++) {
                    if (2 * n - Integer.bitCount(a) - Integer.bitCount(b) <= 6) {
                        clueOfThree(n, a, b, (1 << n) - 1);
                        clueOfThree(n, a, b, (1 << n) - 1 - (1 << (a + b) % n));
                    }
                }
            }
        }
    }

    private static void clueOfThree(int n, int a, int b, int c) {
        RiddlePress x = Told.press(n);
        int crosses = cross(x, n, 0, a) + cross(x, n, 1, b) + cross(x, n, 2, c);
        Told.clue(x, 0, "m012");
        x.prove(0);
        int due = 0;
        for (int k = 0; k < n; k++) {
            boolean stays = isLeft(a, k) && isRight(b, k, n) || isLeft(b, k) && isRight(a, k, n);
            due += has(c, k) && !stays ? 1 : 0;
        }
        isStep(x, "of " + n + " by " + a + ", " + b + " and " + c, crosses, 6, due);
    }

    private static boolean isLeft(int places, int k) {
        for (int place = 0; place < k; place++) {
            if (has(places, place)) {
                return true;
            }
        }
        return false;
    }

    private static boolean isRight(int places, int k, int n) {
        for (int place = k + 1; place < n; place++) {
            if (has(places, place)) {
                return true;
            }
        }
        return false;
    }

    private static void ruleSeven() {
        Due.says("7, for each person by numbers: if it has one place alone, all others do not");
        for (int n = 3; n <= 6; n++) {
            for (int person = 0; person < n; person++) {
                for (int place = 0; place < n; place++) {
                    String steps = "0:0:" + (n - 1) + " 7:" + person + ":" + (n - 1) + " ";
                    proof(Told.press(n, "p" + person + place), 'n', steps);
                }
            }
        }
        proof(Told.press(3, "x00", "x01"), 'n', "1:0:1 1:1:1 7:0:2 ");
        proof(Told.press(4, "p20", "p30"), 'f', "0:0:3 0:1:3 7:2:3 ");
    }

    private static void ruleEight() {
        Due.says("8, for each place by numbers: if one person alone has it, this one has no other");
        for (int n = 3; n <= 6; n++) {
            for (int person = 0; person < n; person++) {
                for (int place = 0; place < n; place++) {
                    onlyOneHas(n, person, place);
                }
            }
        }
        proof(Told.press(4, "x00", "x10", "x20", "x30"), 'n', "1:0:1 1:1:1 1:2:1 1:3:1 ");
        proof(Told.press(4, "x10", "x20", "x30", "x01", "x02", "x03"), 'n',
                "1:0:1 1:1:1 1:2:1 1:3:1 1:4:1 1:5:1 ");
    }

    private static void onlyOneHas(int n, int person, int place) {
        RiddlePress x = Told.press(n);
        StringBuilder steps = new StringBuilder();
        for (int other = 0; other < n; other++) {
            if (other != person) {
                int clues = Told.clue(x, 0, "x" + other + place);
                steps.append("1:").append(clues - 1).append(":1 ");
            }
        }
        steps.append("8:").append(place).append(':').append(n - 1).append(' ');
        proof(x, 'n', steps.toString());
    }

    private static void ruleNine() {
        Due.says("9, for each two persons .. if both have the same two places alone");
        for (int n = 4; n <= 6; n++) {
            int taken = 2 * (n - 2);
            for (int first = 0; first < n; first++) {
                for (int second = first + 1; second < n; second++) {
                    int pair = 10 * first + second;
                    String steps = "5:0:" + taken + " 9:" + pair + ":" + taken + " ";
                    int k = n - 1;
                    proof(Told.press(n, "d" + first + second + k), 'n', steps);
                    proof(Told.press(n, "d" + second + first + k), 'n', steps);
                }
            }
        }
        Due.says("the same two places: not other ones, not three, not one of them alone");
        proof(Told.press(4, "x00", "x01", "x10", "x12"), 'n', "1:0:1 1:1:1 1:2:1 1:3:1 ");
        proof(Told.press(5, "x00", "x01", "x10", "x11"), 'n', "1:0:1 1:1:1 1:2:1 1:3:1 ");
        proof(Told.press(4, "x00", "x01", "x10"), 'n', "1:0:1 1:1:1 1:2:1 ");
    }

    private static void secondPartByNothing() {
        Due.says("the second one is done by what the first one left, also if this is nothing: "
                + "b has no place then");
        for (int n = 3; n <= 6; n++) {
            String begin = "0:0:" + (n - 1) + " ";
            int all = n + 1;
            proof(Told.press(n, "p0" + (n - 1), "b01"), 'f', begin + "2:1:" + all + " ");
            proof(Told.press(n, "p10", "b01"), 'f', begin + "2:1:" + all + " ");
            proof(Told.press(n, "p0" + (n - 1), "l01"), 'f', begin + "4:1:" + all + " ");
            proof(Told.press(n, "p10", "l01"), 'f', begin + "4:1:" + all + " ");
            if (n < 6) {
                proof(Told.press(n, "d01" + n), 'f', "5:0:" + 2 * n + " ");
                proof(Told.press(n, "p00", "d01" + n), 'f', begin + "5:1:" + all + " ");
            }
            String two = begin + "0:1:" + (n - 1) + " ";
            proof(Told.press(n, "p00", "p1" + (n - 1), "n01"), 'f', two + "3:2:2 ");
            proof(Told.press(n, "p00", "p10", "d011"), 'f', two + "5:2:2 ");
        }
    }

    // ---- which step is made

    private static void firstRuleByNumbers() {
        Due.says("A step is made by the first rule by numbers that stands and takes something");
        String[] clues = {"p05", "x04", "b34", "n12", "l45", "d345", "m345"};
        for (int high = 0; high < clues.length; high++) {
            RiddlePress alone = proved(6, "p20", clues[high]);
            int rule = high;
            Due.is("it could, " + clues[high], rule, () -> alone.ruleAt(0, 1));
            for (int low = 0; low < high; low++) {
                RiddlePress x = proved(6, "p20", clues[high], clues[low]);
                int due = low;
                String what = clues[low] + " before " + clues[high];
                Due.is(what, due, () -> x.ruleAt(0, 1));
                Due.is(what, 2, () -> x.causeAt(0, 1));
            }
        }
        proof(Told.press(6, "p20"), 'n', "0:0:5 7:2:5 ");
    }

    private static void firstRulesOfPlaces() {
        Due.says("A step is made by the first rule by numbers that stands and takes something");
        proof(Told.press(4, "p00", "x23", "x33"), 'n', "0:0:3 1:1:1 1:2:1 7:0:3 8:3:2 ");
        proof(Told.press(4, "x31", "d013"), 'n', "1:0:1 5:1:4 8:1:3 8:2:2 ");
        proof(Told.press(4, "d013", "x30"), 'n', "1:1:1 5:0:4 9:1:3 ");
    }

    private static void ownRulesComeLast() {
        Due.says("A step is made by the first rule by numbers that stands and takes something");
        RiddlePress x = Told.press(4, "d013", "n23");
        Told.rule(x, "naf2");
        proof(x, 'n', "5:0:4 9:1:4 10:1:1 3:1:1 ");
        RiddlePress y = Told.press(4, "n23");
        Told.rule(y, "nbl1");
        Told.rule(y, "naf1");
        proof(y, 'n', "10:0:1 11:0:1 ");
        Told.rule(y, "naf3");
        y.fall(10);
        proof(y, 'n', "11:0:1 12:0:2 3:0:3 7:2:2 7:3:2 ");
    }

    private static void firstOfItsClues() {
        Due.says("and by the first of its clues, persons, places or pairs by which it does");
        String[] idle = {"p20", "x25", "b25", "n25", "l25", "d251", "m235"};
        String[] able = {"p05", "x04", "b04", "n12", "l04", "d045", "m014"};
        for (int kind = 0; kind < able.length; kind++) {
            RiddlePress x = proved(6, "p20", "p51", "p32", able[kind], able[kind]);
            RiddlePress y = proved(6, "p20", "p51", "p32", idle[kind], able[kind]);
            int rule = kind;
            Due.is("the rule, " + able[kind], rule, () -> x.ruleAt(0, 3));
            Due.is("the first of two, " + able[kind], 3, () -> x.causeAt(0, 3));
            Due.is("never the second one, " + able[kind], false, () -> hasStepByClue(x, 4));
            Due.is("the rule, " + idle[kind], rule, () -> y.ruleAt(0, 3));
            Due.is("the one that does, " + idle[kind], 4, () -> y.causeAt(0, 3));
        }
        RiddlePress x = Told.press(4, "n01", "d231", "n12");
        Told.rule(x, "naf1");
        proof(x, 'n', "10:0:1 10:2:1 ");
    }

    private static boolean hasStepByClue(RiddlePress x, int clue) {
        for (int step = 0; step < x.steps(0); step++) {
            if (x.causeAt(0, step) == clue && x.ruleAt(0, step) < 7) {
                return true;
            }
        }
        return false;
    }

    private static void firstPersonPlaceAndPair() {
        Due.says("and by the first of its clues, persons, places or pairs by which it does");
        proof(Told.press(4, "p31", "p00"), 'n', "0:0:3 0:1:3 7:0:2 7:3:2 ");
        proof(Told.press(4, "x00", "x10", "x20", "x01", "x11", "x31"), 'n',
                "1:0:1 1:1:1 1:2:1 1:3:1 1:4:1 1:5:1 8:0:2 8:1:2 ");
        Due.says("9, for each two persons, by the first one, then the second one");
        proof(Told.press(6, "d034", "d124", "x00", "x30", "x11", "x21"), 'n',
                "1:2:1 1:3:1 1:4:1 1:5:1 5:0:6 5:1:6 9:3:4 9:12:4 ");
    }

    private static void againFromRuleZero() {
        Due.says("then again from the rule 0 on");
        proof(Told.press(3, "b01", "b12"), 'w', "2:0:2 2:1:3 2:0:1 ");
        proof(Told.press(4, "d032", "l01"), 'n', "4:1:2 5:0:1 ");
        RiddlePress x = Told.press(3, "b01");
        Told.rule(x, "baf1");
        proof(x, 'w', "2:0:2 10:0:1 2:0:1 7:0:1 7:1:1 ");
    }

    // ---- how a proof ends

    private static void failedAtOnce() {
        Due.says("A person without a place ends the proof at once as failed");
        proof(Told.press(4, "p00", "p01", "p12"), 'f', "0:0:3 0:1:1 ");
        proof(Told.press(4, "p00", "x00", "p11"), 'f', "0:0:3 0:2:3 1:1:1 ");
        proof(Told.press(3, "x20", "x21", "x22", "x00"), 'f', "1:0:1 1:1:1 1:2:1 ");
        proof(Told.press(3, "d013", "x20"), 'f', "1:1:1 5:0:6 ");
        proof(Told.press(4, "p00", "p11", "m012"), 'f', "0:0:3 0:1:3 6:2:4 ");
        proof(Told.press(4, "p00", "p10"), 'f', "0:0:3 0:1:3 7:0:3 ");
        proof(Told.press(5, "d014", "x21", "x22", "x23"), 'f', "1:1:1 1:2:1 1:3:1 5:0:6 9:1:6 ");
        RiddlePress x = Told.press(3, "n01", "n12");
        Told.rule(x, "naf5");
        proof(x, 'f', "10:0:3 ");
    }

    private static void wholeAndNotWhole() {
        Due.says("it is whole if each person has one place alone, and otherwise not whole");
        proof(Told.press(3, "p00", "p11"), 'w', "0:0:2 0:1:2 7:0:1 7:1:1 ");
        proof(Told.press(4, "p00", "p11"), 'n', "0:0:3 0:1:3 7:0:2 7:1:2 ");
        RiddlePress none = Told.press(5, "x03", "x04", "x13", "x14", "x23", "x24", "x33", "x34");
        proof(none, 'n', "1:0:1 1:1:1 1:2:1 1:3:1 1:4:1 1:5:1 1:6:1 1:7:1 8:3:4 ");
        Due.is("not whole, and no answer", 0, () -> none.answers(0));
        RiddlePress one = Told.press(3, "l12", "n02");
        proof(one, 'n', "4:0:2 ");
        Due.is("not whole, and one answer", 1, () -> one.answers(0));
    }

    private static void longest() {
        Due.says("Returns the number of steps, also if it is not whole");
        proof(Told.press(6, "m215", "b341", "l212", "n240", "b312", "l302", "l504"), 'f',
                "2:1:2 2:4:1 4:2:1 4:5:1 4:6:1 6:0:1 4:6:1 4:5:1 2:1:1 2:4:1 3:3:1 "
                        + "6:0:1 4:6:1 4:5:1 2:1:1 2:4:1 3:3:1 6:0:1 4:6:1 4:5:1 2:1:1 2:4:1 "
                        + "3:3:1 6:0:1 4:6:1 4:5:1 2:1:1 2:4:1 3:3:1 6:0:1 ");
        RiddlePress x = Told.press(6, "n153", "n521", "n525", "l320", "d313", "n154", "d423");
        Told.rule(x, "nal1");
        Told.rule(x, "nal2");
        Told.rule(x, "mal2");
        proof(x, 'w', "4:3:2 5:4:1 5:6:1 10:0:1 5:4:1 4:3:1 5:6:1 10:1:1 11:0:1 3:0:1 3:1:1 "
                        + "4:3:1 5:4:2 3:0:1 3:1:1 5:6:2 11:1:1 3:1:1 4:3:1 5:4:1 3:0:1 5:6:1 "
                        + "7:1:1 7:2:1 7:3:1 7:4:1 7:5:1 ");
    }

    // ---- promises 6 to 12

    private static void proveInPlace() {
        Due.says("Proves a riddle, with the rules that stand, in place of a proof before");
        RiddlePress x = Told.press(3, "b01");
        proof(x, 'n', "2:0:2 ");
        Due.is("open", 'o', () -> x.state(0));
        Told.rule(x, "baf1");
        Due.is("a rule alone changes no proof", 1, () -> x.steps(0));
        proof(x, 'w', "2:0:2 10:0:1 2:0:1 7:0:1 7:1:1 ");
        Due.is("whole", 'w', () -> x.state(0));
        proof(x, 'w', "2:0:2 10:0:1 2:0:1 7:0:1 7:1:1 ");
        Told.rule(x, "bbl1");
        proof(x, 'f', "2:0:2 10:0:1 2:0:1 7:0:1 7:1:1 11:0:1 ");
        Due.is("whole no more", 'o', () -> x.state(0));
        x.fall(11);
        x.fall(10);
        proof(x, 'n', "2:0:2 ");
        Due.is("no step of the proof before", Due.NO_ELEMENT, () -> x.ruleAt(0, 1));
        Due.is("no rule of the proof before", false, () -> x.leansOn(0, 7));
    }

    /** A press with one riddle, which is held. */
    private static RiddlePress held() {
        RiddlePress x = new RiddlePress();
        Told.falseRule(x);
        Told.issue(x, Told.weak(x));
        x.publish(0, 1);
        x.fall(10);
        return x;
    }

    private static void proveOfAHeldOne() {
        Due.says("if it is whole, a held riddle is proved whole as others are; if not, it stays "
                + "held, and others are open");
        RiddlePress x = held();
        Due.is("held", 'h', () -> x.state(0));
        proof(x, 'n', "2:0:2 ");
        Due.is("not whole", 'h', () -> x.state(0));
        Told.falseRule(x);
        proof(x, 'w', "2:0:2 11:0:1 2:0:1 7:0:1 7:1:1 ");
        Due.is("whole", 'w', () -> x.state(0));
        Due.is("into an issue", 1, () -> x.put(x.issue(), 0));
        RiddlePress y = held();
        Told.rule(y, "baf5");
        proof(y, 'f', "2:0:2 11:0:2 ");
        Due.is("failed", 'h', () -> y.state(0));
        RiddlePress z = Told.press(3, "b01");
        z.prove(0);
        Due.is("others, not whole", 'o', () -> z.state(0));
        Told.rule(z, "baf5");
        z.prove(0);
        Due.is("others, failed", 'o', () -> z.state(0));
    }

    private static void proveInAnIssue() {
        Due.says("prove: Throws `UnsupportedOperationException` if it is in an issue, or comes "
                + "back");
        RiddlePress x = new RiddlePress();
        Told.falseRule(x);
        Told.issue(x, Told.chain(x), Told.weak(x));
        Due.is("made up", Due.UNSUPPORTED, () -> x.prove(0));
        Due.is("made up, state", 'i', () -> x.state(0));
        x.publish(0, 1);
        Due.is("on sale", Due.UNSUPPORTED, () -> x.prove(0));
        Due.is("on sale, state", 's', () -> x.state(0));
        x.fall(10);
        Due.is("comes back", Due.UNSUPPORTED, () -> x.prove(0));
        Due.is("comes back, state", 'b', () -> x.state(0));
        Due.is("its proof", "4:0:2 4:1:3 4:0:1 ", () -> Told.steps(x, 0));
        Due.is("held", 'n', () -> x.prove(1));
        Told.issue(x, 0);
        Due.is("made up again", Due.UNSUPPORTED, () -> x.prove(0));
        RiddlePress y = new RiddlePress();
        Told.falseRule(y);
        Told.issue(y, Told.weak(y));
        y.fall(10);
        Due.is("taken out", 'n', () -> y.prove(0));
    }

    private static void proveNoSuchRiddle() {
        Due.says("prove: Throws `IndexOutOfBoundsException` if there is no such riddle");
        RiddlePress x = new RiddlePress();
        Due.is("of none", Due.INDEX, () -> x.prove(0));
        Told.riddles(x, 20);
        for (int riddle : new int[] {-1, 20, MOST, LEAST}) {
            Due.is("of 20, " + riddle, Due.INDEX, () -> x.prove(riddle));
        }
        Due.is("the last one", 'n', () -> x.prove(19));
    }

    private static void steps() {
        Due.says("Returns the number of steps, also if it is not whole");
        RiddlePress x = Told.press(3);
        Told.riddle(x, 3, "b01");
        Told.riddle(x, 3, "p00", "p01");
        Told.chain(x);
        Due.is("before the proof", Due.NO_ELEMENT, () -> x.steps(0));
        for (int riddle = 0; riddle < 3; riddle++) {
            x.prove(riddle);
        }
        Due.is("none", 0, () -> x.steps(0));
        Due.is("not whole", 1, () -> x.steps(1));
        Due.is("failed", 2, () -> x.steps(2));
        Due.is("whole", 3, () -> x.steps(3));
        Due.says("steps: Throws `IndexOutOfBoundsException` if there is no such riddle");
        for (int riddle : new int[] {-1, 4, 20, MOST, LEAST}) {
            Due.is("riddle " + riddle, Due.INDEX, () -> x.steps(riddle));
        }
    }

    private static void noSuchStep() {
        Due.says("Throws `NoSuchElementException` if there is no such step");
        RiddlePress x = Told.press(3);
        Told.riddle(x, 3, "b01");
        Told.chain(x);
        x.prove(0);
        x.prove(1);
        int[] steps = {0, 1, 3};
        for (int i = 0; i < 3; i++) {
            int riddle = i;
            for (int wrong : new int[] {-1, steps[i], steps[i] + 1, 36, MOST, LEAST}) {
                stepCalls(x, riddle, wrong, Due.NO_ELEMENT);
            }
        }
        Due.is("rule of the first step", 4, () -> x.ruleAt(2, 0));
        Due.is("cause of the last step", 0, () -> x.causeAt(2, 2));
        Due.is("taken by the last step", 1, () -> x.takenAt(2, 2));
        Due.says("Throws `IndexOutOfBoundsException` if there is no such riddle");
        for (int wrong : new int[] {-1, 3, 20, MOST, LEAST}) {
            stepCalls(x, wrong, 0, Due.INDEX);
            stepCalls(x, wrong, -1, Due.INDEX);
        }
    }

    private static void stepCalls(RiddlePress x, int riddle, int step, Object due) {
        Due.is("ruleAt " + riddle + ", " + step, due, () -> x.ruleAt(riddle, step));
        Due.is("causeAt " + riddle + ", " + step, due, () -> x.causeAt(riddle, step));
        Due.is("takenAt " + riddle + ", " + step, due, () -> x.takenAt(riddle, step));
    }

    private static void noProof() {
        Due.says("Throws `NoSuchElementException` if it has no proof");
        RiddlePress x = Told.press(3, "b01");
        Told.falseRule(x);
        Due.is("never proved", Due.NO_ELEMENT, () -> x.steps(0));
        stepCalls(x, 0, 0, Due.NO_ELEMENT);
        x.prove(0);
        Due.is("proved", 5, () -> x.steps(0));
        x.fall(10);
        Due.is("lost", Due.NO_ELEMENT, () -> x.steps(0));
        stepCalls(x, 0, 0, Due.NO_ELEMENT);
        Due.says("Returns whether it does; false without a proof");
        for (int rule = 0; rule < 11; rule++) {
            int asked = rule;
            Due.is("lost, " + rule, false, () -> x.leansOn(0, asked));
        }
    }

    private static void leansOn() {
        Due.says("leans on the rule, that has a step by it");
        RiddlePress x = Told.press(4, "p00");
        Told.riddle(x, 4, "d013");
        Told.riddle(x, 3, "l01", "l10");
        Told.riddle(x, 6, "m012");
        for (int i = 0; i < 5; i++) {
            Told.rule(x, "mbf1");
        }
        Told.rule(x, "maf1");
        Due.is("not without a proof", false, () -> x.leansOn(0, 0));
        leansOnJust(x, 0, 'n', "0 7 ");
        leansOnJust(x, 1, 'n', "5 9 ");
        leansOnJust(x, 2, 'f', "4 ");
        leansOnJust(x, 3, 'n', "6 10 15 ");
    }

    private static void leansOnJust(RiddlePress x, int riddle, char proof, String rules) {
        Due.is("proof of " + riddle, proof, () -> x.prove(riddle));
        for (int i = 0; i < 16; i++) {
            int rule = i;
            boolean due = (" " + rules).contains(" " + rule + " ");
            Due.is("riddle " + riddle + ", rule " + rule, due, () -> x.leansOn(riddle, rule));
        }
    }

    private static void leansOnNoSuchRule() {
        Due.says("leansOn: Throws `IndexOutOfBoundsException` if there is no such riddle or rule");
        RiddlePress x = Told.press(4, "p00");
        for (int own = 0; own <= 6; own++) {
            for (int rule : new int[] {-1, 10 + own, 16, 32, 42, MOST, LEAST}) {
                Due.is(own + " own ones, " + rule, Due.INDEX, () -> x.leansOn(0, rule));
            }
            int last = 9 + own;
            Due.is(own + " own ones, " + last, false, () -> x.leansOn(0, last));
            for (int riddle : new int[] {-1, 1, 20, MOST, LEAST}) {
                Due.is("riddle " + riddle, Due.INDEX, () -> x.leansOn(riddle, 0));
            }
            if (own < 6) {
                Told.falseRule(x);
            }
            x.prove(0);
        }
    }

    private static void states() {
        Due.says("'o' open, without a whole proof, 'w' proved whole, 'i' in an issue that is made "
                + "up, 's' on sale, 'b' it comes back, 'h' it is held");
        RiddlePress x = new RiddlePress();
        Told.falseRule(x);
        Told.riddle(x, 3, "b01");
        Told.riddle(x, 3, "p00", "p01");
        Told.riddle(x, 3, "x00");
        statesAre(x, "ooo");
        x.prove(0);
        x.prove(1);
        x.prove(2);
        statesAre(x, "woo");
        Told.issue(x, Told.chain(x), 0);
        statesAre(x, "iooi");
        x.publish(0, 1000);
        statesAre(x, "soos");
        x.fall(10);
        statesAre(x, "hoob");
        Told.issue(x, 3);
        statesAre(x, "hooi");
    }

    private static void statesAre(RiddlePress x, String due) {
        for (int i = 0; i < due.length(); i++) {
            int riddle = i;
            Due.is("riddle " + i + " of " + due, due.charAt(i), () -> x.state(riddle));
        }
    }

    private static void stateNoSuchRiddle() {
        Due.says("state: Throws `IndexOutOfBoundsException` if there is no such riddle");
        RiddlePress x = new RiddlePress();
        Due.is("of none", Due.INDEX, () -> x.state(0));
        Told.riddles(x, 20);
        for (int riddle : new int[] {-1, 20, MOST, LEAST}) {
            Due.is("of 20, " + riddle, Due.INDEX, () -> x.state(riddle));
        }
        Due.is("the last one", 'o', () -> x.state(19));
    }
}
