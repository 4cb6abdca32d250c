/** Promises 8 to 14: groups, settings and time. */
public final class SettingsAndTimeTest {
    private static final Checks CHECKS = new Checks();

    private static void due(int promise, String what, long got, long want) {
        CHECKS.due(promise, what, got, want);
    }

    public static void main(String[] args) {
        addGroup();
        addGroupWhenFull();
        admission();
        admissionBesideOthers();
        setCapacity();
        setPolicy();
        setRules();
        pass();
        passWithDeadlines();
        undo();
        undoBringsAllBack();
        time();
        CHECKS.finish();
    }

    private static void addGroup() {
        CoflowSimulator x = new CoflowSimulator();
        for (int far : Checks.FAR_OFF) {
            due(8, "addGroup(" + far + ", 1, 0)", x.addGroup(far, 1, 0), Checks.BAD_VALUE);
            due(8, "addGroup(0, " + far + ", 0)", x.addGroup(0, far, 0), Checks.BAD_VALUE);
            due(8, "addGroup(0, 1, " + far + ")", x.addGroup(0, 1, far), Checks.BAD_VALUE);
        }
        due(8, "addGroup(1001, 1, 0)", x.addGroup(1001, 1, 0), Checks.BAD_VALUE);
        due(8, "addGroup(0, 0, 0)", x.addGroup(0, 0, 0), Checks.BAD_VALUE);
        due(8, "addGroup(0, 101, 0)", x.addGroup(0, 101, 0), Checks.BAD_VALUE);
        due(8, "addGroup(0, 1, 10001)", x.addGroup(0, 1, 10001), Checks.BAD_VALUE);
        due(8, "addGroup without a draft", x.addGroup(0, 1, 0), Checks.BAD_STATE);
        due(8, "wrong calls are not saved", x.undo(), Checks.BAD_STATE);
        x.pass(7);
        x.flow(1, 2, 3);
        due(8, "addGroup(1001, 1, 0) with a draft", x.addGroup(1001, 1, 0), Checks.BAD_VALUE);
        due(8, "addGroup(1000, 100, 10000)", x.addGroup(1000, 100, 10000), 0);
        due(8, "arrival(0)", x.arrival(0), 1007);
        due(8, "state(0)", x.state(0), 0);
        due(8, "the draft is empty", x.dropDraft(), 0);
        x.undo();
        due(8, "undo()", x.undo(), 2);
        due(8, "no group", x.groupCount(), 0);
        due(8, "the draft is back", x.flow(0, 0, 1), 2);
        due(8, "addGroup(0, 1, 0)", x.addGroup(0, 1, 0), 0);
        due(8, "flowCount(0)", x.flowCount(0), 2);
        due(8, "state(0)", x.state(0), 1);
    }

    private static void addGroupWhenFull() {
        CoflowSimulator x = new CoflowSimulator();
        for (int i = 0; i < 12; i++) {
            due(8, "addGroup", Checks.group(x, "0>0:1"), i);
        }
        due(8, "addGroup with neither draft nor room", x.addGroup(0, 1, 0), Checks.BAD_STATE);
        x.flow(0, 0, 1);
        due(8, "addGroup without room", x.addGroup(0, 1, 0), Checks.FULL);
        due(8, "wrong addGroup without room", x.addGroup(0, 0, 0), Checks.BAD_VALUE);
        due(8, "groupCount()", x.groupCount(), 12);
        due(8, "a group without room is not saved", x.undo(), 5);
        due(8, "undo() took back the flow before", x.flow(0, 0, 1), 1);
        x.pass(1);
        due(8, "done groups keep their room", x.addGroup(0, 1, 0), Checks.FULL);
        due(8, "the draft stays", x.flow(0, 0, 1), 2);
    }

    private static CoflowSimulator withDeadlines() {
        CoflowSimulator x = new CoflowSimulator();
        x.setRules(true, true);
        return x;
    }

    /** Adds a group, and takes it back. */
    private static int stateOfNew(CoflowSimulator x, String flows, int delay, int deadline) {
        int number = Checks.group(x, flows, delay, 1, deadline);
        int state = x.state(number);
        x.undo();
        x.undo();
        return state;
    }

    private static void admission() {
        CoflowSimulator x = withDeadlines();
        due(8, "just fits", stateOfNew(x, "0>0:1000", 0, 10), 1);
        due(8, "does not fit", stateOfNew(x, "0>0:1001", 0, 10), 3);
        due(8, "rates are rounded up, each one", stateOfNew(x, "0>0:501,0>1:500", 0, 10), 3);
        due(8, "two flows of a port just fit", stateOfNew(x, "0>0:500,0>1:500", 0, 10), 1);
        due(8, "the receiver counts", stateOfNew(x, "0>3:500,1>3:501", 0, 10), 3);
        due(8, "the other receivers don't", stateOfNew(x, "0>3:500,1>4:501", 0, 10), 1);
        due(8, "later groups count from their arrival", stateOfNew(x, "0>0:1001", 500, 10), 3);
        due(8, "a later group fits", stateOfNew(x, "0>0:1000", 500, 10), 0);
        due(8, "without a deadline all are admitted", stateOfNew(x, "0>0:100000", 0, 0), 1);
        due(8, "deadline 10000", stateOfNew(x, "0>0:100000,0>0:100000", 0, 10000), 1);
        due(8, "no event of a group that was admitted or taken back", x.eventCount(), 0);
        due(8, "the number of a rejected group", Checks.group(x, "0>0:1001", 3, 1, 10), 0);
        due(8, "event(0, 0)", x.event(0, 0), 3);
        due(8, "event(0, 1)", x.event(0, 1), 0);
        due(8, "event(0, 2)", x.event(0, 2), 0);
        due(8, "arrival(0)", x.arrival(0), 3);
        due(8, "a rejected group commits nothing", stateOfNew(x, "0>0:1000", 0, 10), 1);
        x.pass(5);
        due(8, "it never gets active", x.state(0), 3);
        due(8, "it sends nothing", x.rest(0), 1001);
        x.setRules(true, false);
        due(8, "with deadlines off all are admitted", stateOfNew(x, "0>0:100000", 0, 1), 1);
        x.setRules(true, true);
        x.setCapacity(0, 0);
        due(8, "without capacity", stateOfNew(x, "0>0:1", 0, 10000), 3);
        due(8, "with capacity elsewhere", stateOfNew(x, "1>0:1", 0, 10000), 1);
    }

    private static void admissionBesideOthers() {
        CoflowSimulator x = withDeadlines();
        x.setRules(false, true);
        Checks.group(x, "0>0:600", 0, 1, 10);
        Checks.group(x, "1>1:100000");
        due(8, "beside 60 a tick", stateOfNew(x, "0>1:400", 0, 10), 1);
        due(8, "beside 60 a tick, too much", stateOfNew(x, "0>1:401", 0, 10), 3);
        due(8, "groups without a deadline don't count", stateOfNew(x, "1>1:1000", 0, 10), 1);
        x.pass(5);
        due(8, "rest(0)", x.rest(0), 300);
        due(8, "300 in 5 ticks", stateOfNew(x, "0>1:400", 0, 10), 1);
        due(8, "300 in 5 ticks, too much", stateOfNew(x, "0>1:401", 0, 10), 3);
        x.setCapacity(0, 0);
        x.pass(4);
        x.setCapacity(0, 310);
        due(8, "the overfull receiver 0 keeps others out", stateOfNew(x, "5>5:1", 0, 10), 3);
        x.setCapacity(8, 300);
        due(8, "receiver 0 is full, not overfull", stateOfNew(x, "5>5:1", 0, 10), 1);
        due(8, "300 in 1 tick", stateOfNew(x, "0>1:100", 0, 10), 1);
        due(8, "300 in 1 tick, too much", stateOfNew(x, "0>1:101", 0, 10), 3);
        x.setCapacity(0, 0);
        x.pass(1);
        x.setCapacity(0, 310);
        due(8, "the end of a deadline: the rest counts", stateOfNew(x, "0>1:100", 0, 10), 1);
        due(8, "the end of a deadline, too much", stateOfNew(x, "0>1:101", 0, 10), 3);
        x.pass(2);
        due(8, "group 0 is done", x.state(0), 2);
        due(8, "done groups don't count", stateOfNew(x, "0>1:1000", 0, 10), 1);

        CoflowSimulator late = withDeadlines();
        Checks.group(late, "0>0:70,1>2:40,1>1:20", 0, 1, 1);
        due(8, "each flow of a group counts", stateOfNew(late, "1>3:400", 0, 10), 1);
        due(8, "each flow of a group counts at its ports", stateOfNew(late, "1>3:401", 0, 10), 3);
        due(8, "each flow of a group counts at its ports", stateOfNew(late, "3>2:600", 0, 10), 1);
        due(8, "each flow of a group counts at its ports", stateOfNew(late, "3>2:601", 0, 10), 3);
        late.setCapacity(0, 0);
        due(8, "with a deadline beside what is overfull", stateOfNew(late, "3>3:1", 0, 10), 3);
        due(8, "without a deadline beside what is overfull", stateOfNew(late, "3>3:1", 0, 0), 1);

        CoflowSimulator y = withDeadlines();
        Checks.group(y, "0>0:600", 100, 1, 10);
        due(8, "waiting groups count with their whole deadline", stateOfNew(y, "0>1:400", 0, 10), 1);
        due(8, "waiting groups count", stateOfNew(y, "0>1:401", 0, 10), 3);
    }

    private static void setCapacity() {
        CoflowSimulator x = new CoflowSimulator();
        for (int far : Checks.FAR_OFF) {
            due(9, "setCapacity(" + far + ", 1)", x.setCapacity(far, 1), Checks.BAD_INDEX);
            due(9, "setCapacity(" + far + ", -1)", x.setCapacity(far, -1), Checks.BAD_INDEX);
            due(9, "setCapacity(0, " + far + ")", x.setCapacity(0, far), Checks.BAD_VALUE);
        }
        due(9, "setCapacity(16, 1)", x.setCapacity(16, 1), Checks.BAD_INDEX);
        due(9, "setCapacity(15, 1001)", x.setCapacity(15, 1001), Checks.BAD_VALUE);
        due(9, "wrong calls are not saved", x.undo(), Checks.BAD_STATE);
        due(9, "setCapacity(15, 1000)", x.setCapacity(15, 1000), 100);
        due(9, "setCapacity(15, 0)", x.setCapacity(15, 0), 1000);
        due(9, "setCapacity(15, 0) again", x.setCapacity(15, 0), 0);
        due(9, "spare(15)", x.spare(15), 0);
        due(9, "spare(7)", x.spare(7), 100);
        due(9, "undo()", x.undo(), 2);
        due(9, "undo()", x.undo(), 1);
        due(9, "spare(15)", x.spare(15), 1000);
    }

    private static void setPolicy() {
        CoflowSimulator x = new CoflowSimulator();
        for (int far : Checks.FAR_OFF) {
            due(10, "setPolicy(" + far + ")", x.setPolicy(far), Checks.BAD_VALUE);
        }
        due(10, "setPolicy(6)", x.setPolicy(6), Checks.BAD_VALUE);
        due(10, "wrong calls are not saved", x.undo(), Checks.BAD_STATE);
        int before = 0;
        for (int policy = 5; policy >= 0; policy--) {
            due(10, "setPolicy(" + policy + ")", x.setPolicy(policy), before);
            before = policy;
        }
        due(10, "undo()", x.undo(), 5);
        due(10, "setPolicy(3)", x.setPolicy(3), 1);
        due(10, "setPolicy(3) again", x.setPolicy(3), 3);
    }

    private static void setRules() {
        CoflowSimulator x = new CoflowSimulator();
        due(11, "setRules(false, true)", x.setRules(false, true), 1);
        due(11, "setRules(true, true)", x.setRules(true, true), 2);
        due(11, "setRules(false, false)", x.setRules(false, false), 3);
        due(11, "setRules(false, false) again", x.setRules(false, false), 0);
        due(11, "undo()", x.undo(), 3);
        due(11, "undo()", x.undo(), 2);
        due(11, "setRules(true, false)", x.setRules(true, false), 3);
    }

    private static void pass() {
        CoflowSimulator x = new CoflowSimulator();
        for (int far : Checks.FAR_OFF) {
            due(12, "pass(" + far + ")", x.pass(far), Checks.BAD_VALUE);
        }
        due(12, "pass(0)", x.pass(0), Checks.BAD_VALUE);
        due(12, "pass(501)", x.pass(501), Checks.BAD_VALUE);
        due(12, "wrong calls are not saved", x.undo(), Checks.BAD_STATE);
        Checks.group(x, "0>1:250,0>2:150");
        Checks.group(x, "3>3:100", 2, 1, 0);
        due(12, "pass(1)", x.pass(1), 1);
        due(12, "rate with what is left shared", x.flowPart(0, 0, 4), 70);
        due(12, "rate", x.flowPart(0, 1, 4), 30);
        due(12, "rest", x.flowPart(0, 0, 3), 180);
        due(12, "pass(1) makes a group active", x.pass(1), 2);
        due(12, "pass(1) ends it", x.pass(1), 1);
        due(12, "end(1)", x.end(1), 3);
        due(12, "pass(500)", x.pass(500), 0);
        due(12, "end(0)", x.end(0), 4);
        due(12, "time()", x.time(), 503);
        due(12, "the latest tick had no rates", x.flowPart(0, 0, 4), 0);

        CoflowSimulator y = new CoflowSimulator();
        y.setRules(false, false);
        Checks.group(y, "0>1:250,0>2:150");
        y.pass(1);
        due(12, "just rate", y.flowPart(0, 0, 4), 50);
        due(12, "just rate", y.flowPart(0, 1, 4), 30);
        due(12, "all flows end together", y.pass(3), 1);
        due(12, "pass(1)", y.pass(1), 0);
        due(12, "end(0)", y.end(0), 5);
    }

    private static void passWithDeadlines() {
        CoflowSimulator x = new CoflowSimulator();
        x.setRules(false, true);
        Checks.group(x, "0>0:100");
        Checks.group(x, "0>1:300", 0, 1, 10);
        due(12, "place(1)", x.place(1), 0);
        x.pass(1);
        due(12, "just so much that it ends in time", x.flowPart(1, 0, 4), 30);
        due(12, "no room for the just rate of the other", x.flowPart(0, 0, 4), 50);
        due(12, "pass(8)", x.pass(8), 1);
        due(12, "end(0)", x.end(0), 2);
        due(12, "pass(1)", x.pass(1), 0);
        due(12, "end(1)", x.end(1), 10);
        due(12, "it ended in time: no event of kind 4", x.event(0, 0), 1);
        Checks.group(x, "0>0:100", 0, 1, 1);
        x.setCapacity(0, 10);
        x.pass(3);
        due(12, "behind the end of its deadline it gets just rates", x.flowPart(2, 0, 4), 10);
        due(12, "one event of kind 4", x.eventCount(), 3);
        due(12, "its time", x.event(0, 2), 11);
    }

    private static void undo() {
        CoflowSimulator x = new CoflowSimulator();
        due(13, "undo() of a new object", x.undo(), Checks.BAD_STATE);
        long[] digests = new long[10];
        for (int i = 0; i < 10; i++) {
            digests[i] = x.digest();
            x.flow(i % 8, 1, i + 1);
        }
        for (int i = 9; i >= 4; i--) {
            due(13, "undo()", x.undo(), i - 4);
            due(13, "digest()", x.digest(), digests[i]);
        }
        due(13, "only six states are kept", x.undo(), Checks.BAD_STATE);
        due(13, "digest()", x.digest(), digests[4]);
        x.setPolicy(0);
        due(13, "a call that changes nothing is saved", x.undo(), 0);
        Checks.write(x, "0>0:1");
        x.setPolicy(2);
        x.type(50);
        x.undo();
        due(13, "the text is not undone", x.clearText(), 6);
        x.setPolicy(1);
        x.setPolicy(9);
        x.place(0);
        x.total(0);
        due(13, "errors and questions are not saved", x.undo(), 0);
    }

    private static void undoBringsAllBack() {
        CoflowSimulator x = new CoflowSimulator();
        x.setRules(true, true);
        Checks.group(x, "0>0:900,1>1:5", 0, 1, 20);
        Checks.group(x, "0>1:50", 2, 7, 3);
        x.pass(1);
        x.flow(4, 4, 4);
        long before = x.digest();
        int events = x.eventCount();
        x.pass(6);
        due(13, "something happened", x.eventCount() > events ? 1 : 0, 1);
        x.setCapacity(3, 7);
        x.setRules(false, false);
        x.setPolicy(4);
        x.dropDraft();
        Checks.group(x, "0>0:100000");
        for (int left = 5; left >= 0; left--) {
            x.undo();
        }
        due(13, "undo() beyond the states", x.undo(), Checks.BAD_STATE);
        x.setCapacity(3, 100);
        x.setRules(true, true);
        x.setPolicy(0);
        due(13, "six of seven calls are undone", x.time(), 7);

        CoflowSimulator y = new CoflowSimulator();
        y.setRules(true, true);
        Checks.group(y, "0>0:900,1>1:5", 0, 1, 20);
        Checks.group(y, "0>1:50", 2, 7, 3);
        y.pass(1);
        y.flow(4, 4, 4);
        due(13, "the same calls give the same digest", y.digest(), before);
        y.pass(6);
        y.undo();
        due(13, "digest() behind undo()", y.digest(), before);
        y.pass(6);
        long after = y.digest();
        y.undo();
        y.pass(6);
        due(13, "what undo brings back goes on in the same way", y.digest(), after);
    }

    private static void time() {
        CoflowSimulator x = new CoflowSimulator();
        due(14, "time()", x.time(), 0);
        x.pass(500);
        x.pass(3);
        due(14, "time()", x.time(), 503);
        x.total(0);
        due(14, "time() behind total", x.time(), 503);
        x.undo();
        due(14, "time() behind undo", x.time(), 500);
    }
}
