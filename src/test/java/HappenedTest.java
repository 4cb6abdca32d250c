/** Promises 34 to 38: what happened. */
public final class HappenedTest {
    private static final Checks CHECKS = new Checks();

    private static void due(int promise, String what, long got, long want) {
        CHECKS.due(promise, what, got, want);
    }

    public static void main(String[] args) {
        moved();
        preemptions();
        preemptionsOverIdleTicks();
        eventsOfATick();
        eventsAreKept();
        event();
        digest();
        CHECKS.finish();
    }

    private static void moved() {
        CoflowSimulator x = new CoflowSimulator();
        for (int far : Checks.FAR_OFF) {
            due(34, "moved(" + far + ")", x.moved(far), Checks.BAD_INDEX);
        }
        due(34, "moved(16)", x.moved(16), Checks.BAD_INDEX);
        Checks.group(x, "0>1:250,0>7:50");
        Checks.group(x, "7>1:30");
        x.pass(1);
        due(34, "moved(0)", x.moved(0), 100);
        due(34, "moved(9)", x.moved(9), 30 + x.flowPart(0, 0, 4));
        due(34, "moved(7)", x.moved(7), 30);
        x.pass(10);
        int[] want = {300, 0, 0, 0, 0, 0, 0, 30, 0, 280, 0, 0, 0, 0, 0, 50};
        for (int port = 0; port < 16; port++) {
            due(34, "moved(" + port + ")", x.moved(port), want[port]);
        }
        x.undo();
        due(34, "moved(0) behind undo", x.moved(0), 100);
    }

    private static void latest(CoflowSimulator x, int back, int kind, int group, int time) {
        due(37, "event(" + back + ", 0)", x.event(back, 0), kind);
        due(37, "event(" + back + ", 1)", x.event(back, 1), group);
        due(37, "event(" + back + ", 2)", x.event(back, 2), time);
    }

    private static void preemptions() {
        CoflowSimulator x = new CoflowSimulator();
        Checks.group(x, "0>0:1000");
        x.pass(2);
        due(35, "preemptions()", x.preemptions(), 0);
        Checks.group(x, "0>0:100");
        due(35, "preemptions() before the tick", x.preemptions(), 0);
        x.pass(1);
        due(35, "preemptions() by an arrival", x.preemptions(), 1);
        latest(x, 1, 2, 0, 2);
        latest(x, 0, 1, 1, 3);
        x.pass(1);
        due(35, "a group that is done was not preempted", x.preemptions(), 1);
        Checks.group(x, "0>0:50", 2, 1, 0);
        x.pass(2);
        due(35, "preemptions() before the arrival", x.preemptions(), 1);
        x.pass(1);
        due(35, "preemptions() at the arrival", x.preemptions(), 2);
        latest(x, 1, 2, 0, 6);
        x.undo();
        due(35, "preemptions() behind undo", x.preemptions(), 1);
        x.setPolicy(1);
        x.pass(1);
        due(35, "no preemption by policy 1", x.preemptions(), 1);
        x.setPolicy(0);
        x.pass(1);
        due(35, "preemption by a change of the policy", x.preemptions(), 2);
        latest(x, 1, 2, 0, 7);
    }

    private static void preemptionsOverIdleTicks() {
        CoflowSimulator x = new CoflowSimulator();
        x.setRules(false, false);
        Checks.group(x, "0>0:100");
        x.pass(1);
        due(35, "end(0)", x.end(0), 1);
        x.pass(5);
        Checks.group(x, "1>1:300");
        Checks.group(x, "2>2:300");
        x.setPolicy(2);
        x.pass(1);
        due(35, "the first group before is done", x.preemptions(), 0);
        x.setCapacity(1, 0);
        x.setPolicy(0);
        x.pass(1);
        due(35, "a group that lost its span is preempted", x.preemptions(), 1);
        latest(x, 0, 2, 1, 7);
        x.setCapacity(1, 100);
        x.pass(1);
        due(35, "the lone spans are 2 and 1", x.preemptions(), 1);
        due(35, "end(2)", x.end(2), 9);
        x.pass(1);
        due(35, "group 2 is done, so it was not preempted", x.preemptions(), 1);
    }

    private static void eventsOfATick() {
        CoflowSimulator x = new CoflowSimulator();
        due(36, "eventCount()", x.eventCount(), 0);
        Checks.group(x, "0>0:500", 0, 1, 3);
        Checks.group(x, "1>1:300", 0, 1, 3);
        Checks.group(x, "2>2:500", 1, 1, 2);
        Checks.group(x, "3>3:300", 0, 1, 0);
        Checks.group(x, "4>4:900", 9, 1, 1);
        Checks.group(x, "5>5:900", 2, 1, 0);
        x.pass(3);
        due(36, "eventCount()", x.eventCount(), 4);
        latest(x, 3, 1, 1, 3);
        latest(x, 2, 1, 3, 3);
        latest(x, 1, 4, 0, 3);
        latest(x, 0, 4, 2, 3);
        x.pass(1);
        due(36, "an end of a deadline is told once", x.eventCount(), 4);
        x.setRules(true, true);
        Checks.group(x, "0>0:100000", 0, 1, 3);
        due(36, "eventCount() with a rejected group", x.eventCount(), 5);
        latest(x, 0, 3, 6, 4);
        x.pass(3);
        due(36, "no end of the deadline of a rejected group", x.eventCount(), 7);
        latest(x, 1, 1, 0, 5);
        latest(x, 0, 1, 2, 6);
        x.undo();
        due(36, "eventCount() behind undo", x.eventCount(), 5);
        latest(x, 0, 3, 6, 4);
    }

    private static void eventsAreKept() {
        CoflowSimulator x = new CoflowSimulator();
        Checks.group(x, "0>0:100000");
        Checks.group(x, "0>0:90000");
        x.setPolicy(1);
        x.pass(1);
        for (int i = 1; i <= 25; i++) {
            x.setPolicy(i % 2 == 0 ? 1 : 0);
            x.pass(1);
            due(35, "preemptions()", x.preemptions(), i);
            due(36, "eventCount()", x.eventCount(), Math.min(i, 20));
            latest(x, 0, 2, (i - 1) % 2, i);
        }
        for (int back = 0; back < 20; back++) {
            latest(x, back, 2, back % 2, 25 - back);
        }
        due(37, "event(20, 0)", x.event(20, 0), Checks.BAD_INDEX);
        for (int i = 0; i < 3; i++) {
            Checks.group(x, "7>7:1");
        }
        x.pass(1);
        latest(x, 0, 1, 4, 27);
        latest(x, 19, 2, 1, 10);
        x.undo();
        for (int back = 0; back < 20; back++) {
            latest(x, back, 2, back % 2, 25 - back);
        }
    }

    private static void event() {
        CoflowSimulator x = new CoflowSimulator();
        due(37, "event(0, 0)", x.event(0, 0), Checks.BAD_INDEX);
        due(37, "event(0, 3)", x.event(0, 3), Checks.BAD_INDEX);
        Checks.group(x, "0>0:100");
        x.pass(1);
        latest(x, 0, 1, 0, 1);
        for (int far : Checks.FAR_OFF) {
            due(37, "event(" + far + ", 0)", x.event(far, 0), Checks.BAD_INDEX);
            due(37, "event(" + far + ", -1)", x.event(far, -1), Checks.BAD_INDEX);
            due(37, "event(0, " + far + ")", x.event(0, far), Checks.BAD_VALUE);
        }
        due(37, "event(1, 0)", x.event(1, 0), Checks.BAD_INDEX);
        due(37, "event(0, 3)", x.event(0, 3), Checks.BAD_VALUE);
    }

    private static long hash;

    private static void mix(long number) {
        hash = 31 * hash + number;
    }

    private static void digest() {
        CoflowSimulator x = new CoflowSimulator();
        x.setRules(false, true);
        x.setPolicy(5);
        for (int port = 0; port < 16; port++) {
            x.setCapacity(port, 50 + port);
        }
        int[] weights = {3, 4, 100, 1};
        int[] deadlines = {0, 10000, 1, 0};
        Checks.group(x, "0>1:250,2>3:30", 0, 3, 0);
        Checks.group(x, "4>5:9", 0, 4, 10000);
        Checks.group(x, "4>5:900", 0, 100, 1);
        Checks.group(x, "6>7:90", 7, 1, 0);
        x.pass(4);
        x.flow(1, 2, 3);
        x.flow(4, 5, 6);
        hash = 17;
        for (int number : new int[] {x.time(), 5, 0, 1, x.preemptions()}) {
            mix(number);
        }
        for (int port = 0; port < 16; port++) {
            mix(50 + port);
            mix(x.moved(port));
        }
        for (int number : new int[] {2, 1, 2, 3, 4, 5, 6}) {
            mix(number);
        }
        for (int group = 0; group < 4; group++) {
            mix(x.state(group));
            mix(x.arrival(group));
            mix(weights[group]);
            mix(deadlines[group]);
            mix(x.end(group));
            for (int flow = 0; flow < x.flowCount(group); flow++) {
                for (int what = 0; what < 5; what++) {
                    mix(x.flowPart(group, flow, what));
                }
            }
        }
        for (int event = x.eventCount() - 1; event >= 0; event--) {
            for (int what = 0; what < 3; what++) {
                mix(x.event(event, what));
            }
        }
        due(38, "digest()", x.digest(), hash);
        Checks.write(x, "0>0");
        due(38, "digest() does not tell the text", x.digest(), hash);
        x.setRules(true, true);
        due(38, "digest() tells the rules", x.digest() == hash ? 1 : 0, 0);
        x.undo();
        due(38, "digest() behind undo", x.digest(), hash);
    }
}
