/** The document's four examples. */
public final class ExamplesTest {
    private static final Checks CHECKS = new Checks();

    private static void due(int promise, String what, long got, long want) {
        CHECKS.due(promise, what, got, want);
    }

    public static void main(String[] args) {
        justRates();
        shorterFirst();
        notAdmitted();
        tooEarly();
        CHECKS.finish();
    }

    private static void justRates() {
        CoflowSimulator x = new CoflowSimulator();
        due(5, "flow(0, 1, 250)", x.flow(0, 1, 250), 1);
        due(5, "flow(0, 2, 150)", x.flow(0, 2, 150), 2);
        due(8, "addGroup(0, 1, 0)", x.addGroup(0, 1, 0), 0);
        due(23, "loneSpan(0)", x.loneSpan(0), 5);
        due(26, "nextRate(0, 0)", x.nextRate(0, 0), 70);
        due(26, "nextRate(0, 1)", x.nextRate(0, 1), 30);
        due(27, "spare(0)", x.spare(0), 0);
        due(12, "pass(4)", x.pass(4), 0);
        due(18, "end(0)", x.end(0), 4);
    }

    private static void shorterFirst() {
        CoflowSimulator x = new CoflowSimulator();
        due(5, "flow(0, 0, 300)", x.flow(0, 0, 300), 1);
        due(8, "addGroup(0, 1, 0)", x.addGroup(0, 1, 0), 0);
        due(5, "flow(0, 1, 50)", x.flow(0, 1, 50), 1);
        due(8, "addGroup(0, 1, 0)", x.addGroup(0, 1, 0), 1);
        due(24, "place(0)", x.place(0), 1);
        due(26, "nextRate(0, 0)", x.nextRate(0, 0), 50);
        due(29, "total(0)", x.total(0), 5);
        due(29, "total(1)", x.total(1), 7);
        due(30, "bestPolicy()", x.bestPolicy(), 0);
    }

    private static void notAdmitted() {
        CoflowSimulator x = new CoflowSimulator();
        due(11, "setRules(true, true)", x.setRules(true, true), 1);
        due(5, "flow(0, 0, 1000)", x.flow(0, 0, 1000), 1);
        due(8, "addGroup(0, 1, 10)", x.addGroup(0, 1, 10), 0);
        due(5, "flow(0, 1, 100)", x.flow(0, 1, 100), 1);
        due(8, "addGroup(0, 1, 10)", x.addGroup(0, 1, 10), 1);
        due(16, "state(1)", x.state(1), 3);
        due(37, "event(0, 0)", x.event(0, 0), 3);
    }

    private static void tooEarly() {
        CoflowSimulator x = new CoflowSimulator();
        int[] bytes = {48, 62, 49, 58, 53, 44};
        for (int i = 0; i < bytes.length; i++) {
            due(2, "type(" + bytes[i] + ")", x.type(bytes[i]), i + 1);
        }
        due(4, "textFault()", x.textFault(), 6);
        due(6, "read()", x.read(), -4);
        due(8, "addGroup(0, 1, 0)", x.addGroup(0, 1, 0), -4);
    }
}
