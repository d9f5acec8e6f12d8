/** All that a press can be asked, as a text: presses that differ have other texts. */
final class Picture {
    private static final int[] RULES_OF_RIDDLES = {0, 2, 4, 7, 10, 11};

    private final StringBuilder text = new StringBuilder();
    private final RiddlePress press;

    private Picture(RiddlePress press) {
        this.press = press;
    }

    /** Asks nothing that changes the press. */
    static String of(RiddlePress press) {
        Picture picture = new Picture(press);
        picture.addRules();
        picture.addRiddles();
        picture.addCustomers(picture.addIssues());
        picture.add("press", press::press);
        picture.add("clean", press::isClean);
        picture.add("share", press::provedShare);
        picture.add("mean", press::meanSteps);
        return picture.text.toString();
    }

    /** Adds the answer; returns whether there was one, not an exception. */
    private boolean add(String what, Due.Call call) {
        text.append(what).append(' ');
        try {
            text.append(call.answer()).append('\n');
            return true;
        } catch (RuntimeException e) {
            text.append(e.getClass().getSimpleName()).append('\n');
            return false;
        }
    }

    private void addRules() {
        boolean isMore = true;
        for (int i = 0; isMore; i++) {
            int rule = i;
            isMore = add("stands " + i, () -> press.stands(rule));
            add("indexed " + i, () -> press.indexed(rule));
            if (i > 9) {
                add("counterexample " + i, () -> press.counterexample(rule));
            }
        }
    }

    private void addRiddles() {
        boolean isMore = true;
        for (int i = 0; isMore; i++) {
            int riddle = i;
            isMore = add("state " + i, () -> press.state(riddle));
            if (isMore) {
                add("answers " + i, () -> press.answers(riddle));
                addAnswer(riddle);
                addProof(riddle);
            }
        }
    }

    private void addAnswer(int riddle) {
        boolean isMore = true;
        for (int i = 0; isMore; i++) {
            int person = i;
            isMore = add("answer " + i, () -> press.answer(riddle, person));
        }
    }

    private void addProof(int riddle) {
        boolean isMore = add("steps", () -> press.steps(riddle));
        for (int i = 0; isMore; i++) {
            int step = i;
            isMore = add("rule", () -> press.ruleAt(riddle, step));
            add("cause", () -> press.causeAt(riddle, step));
            add("taken", () -> press.takenAt(riddle, step));
        }
        for (int rule : RULES_OF_RIDDLES) {
            add("leans on " + rule, () -> press.leansOn(riddle, rule));
        }
    }

    private int addIssues() {
        boolean isMore = true;
        int count = 0;
        while (isMore) {
            int issue = count;
            isMore = add("issue " + count, () -> press.issueState(issue));
            count += isMore ? 1 : 0;
        }
        return count;
    }

    private void addCustomers(int issues) {
        boolean isMore = true;
        for (int i = 0; isMore; i++) {
            int customer = i;
            isMore = add("credits " + i, () -> press.credits(customer));
            for (int j = 0; isMore && j < issues; j++) {
                int issue = j;
                add("has " + j, () -> press.has(customer, issue));
            }
        }
    }
}
