/** What happened: promises 34 to 38, and what the description says of events. */
final class HappenedEdges {
    private final Edges edges;

    HappenedEdges(Edges edges) {
        this.edges = edges;
    }

    void run() {
        doneEvents();
        preemptionEvents();
        rejectionEvents();
        lateEvents();
        lateEventsInOrder();
        twentyEvents();
        moved();
        preemptions();
        eventCount();
        event();
        digestOfNew();
        digestOfFull();
        digestParts();
    }

    private void latest(CoflowSimulator x, int back, int kind, int group, int time) {
        edges.due("the kind of event " + back, x.event(back, 0), kind);
        edges.due("the group of event " + back, x.event(back, 1), group);
        edges.due("the time of event " + back, x.event(back, 2), time);
    }

    /** Two long groups; each change of the policy makes the other one the first, which is a preemption. */
    private static void preempt(CoflowSimulator x, int times) {
        Checks.group(x, "0>0:100000");
        Checks.group(x, "0>0:90000");
        x.setPolicy(1);
        x.pass(1);
        for (int i = 1; i <= times; i++) {
            x.setPolicy(i % 2 == 0 ? 1 : 0);
            x.pass(1);
        }
    }

    private void doneEvents() {
        CoflowSimulator x = edges.says(0, "An event has a kind, a group and a time: 1: a group is done (the time is its "
                + "end);");
        Checks.group(x, "0>0:200");
        x.pass(1);
        edges.due("eventCount() before it is done", x.eventCount(), 0);
        x.pass(1);
        edges.due("eventCount() when it is done", x.eventCount(), 1);
        latest(x, 0, 1, 0, 2);
        edges.due("end(0)", x.end(0), 2);
        x.pass(5);
        edges.due("eventCount() later", x.eventCount(), 1);
    }

    private void preemptionEvents() {
        CoflowSimulator x = edges.says(0, "2: a preemption (the group is the one that was first in the tick before; the "
                + "time is that at the beginning of the tick);");
        Checks.group(x, "0>0:1000");
        x.pass(3);
        Checks.group(x, "0>0:300");
        edges.due("eventCount() before the tick", x.eventCount(), 0);
        x.pass(1);
        edges.due("eventCount() behind the tick", x.eventCount(), 1);
        latest(x, 0, 2, 0, 3);
        Checks.group(x, "0>0:100");
        x.pass(1);
        edges.due("a preemption comes before what is done in its tick", x.eventCount(), 3);
        latest(x, 1, 2, 1, 4);
        latest(x, 0, 1, 2, 5);
    }

    private void rejectionEvents() {
        CoflowSimulator x = edges.says(0, "3: a group is rejected (when it is added);");
        x.setRules(true, true);
        Checks.group(x, "0>0:100", 0, 1, 1);
        edges.due("eventCount() of an admitted group", x.eventCount(), 0);
        x.pass(4);
        Checks.group(x, "0>0:101", 7, 1, 1);
        edges.due("eventCount() of a rejected group", x.eventCount(), 2);
        latest(x, 0, 3, 1, 4);
        x.undo();
        edges.due("eventCount() behind undo", x.eventCount(), 1);
    }

    private void lateEvents() {
        CoflowSimulator x = edges.says(0, "4: the time has reached the end of the deadline of a group that is active ");
        x.setRules(false, true);
        Checks.group(x, "0>0:200", 1, 1, 2);
        x.setCapacity(0, 99);
        x.pass(2);
        edges.due("eventCount() a tick before the end", x.eventCount(), 0);
        x.pass(1);
        edges.due("eventCount() at the end", x.eventCount(), 1);
        latest(x, 0, 4, 0, 3);
        x.pass(1);
        edges.due("eventCount() a tick later: it is done", x.eventCount(), 2);
        latest(x, 0, 1, 0, 4);
        CoflowSimulator inTime = edges.object();
        inTime.setRules(false, true);
        Checks.group(inTime, "0>0:200", 1, 1, 2);
        inTime.pass(10);
        edges.due("eventCount() of a group that is done at the end", inTime.eventCount(), 1);
        latest(inTime, 0, 1, 0, 3);
        CoflowSimulator off = edges.object();
        Checks.group(off, "0>0:101", 0, 1, 1);
        Checks.group(off, "1>1:101", 0, 1, 0);
        off.pass(1);
        edges.due("eventCount() with deadlines off, of one group with and one without a deadline", off.eventCount(), 1);
        latest(off, 0, 4, 0, 1);
        CoflowSimulator arriving = edges.object();
        Checks.group(arriving, "0>0:500", 1, 1, 0);
        Checks.group(arriving, "1>1:500", 1, 1, 1);
        arriving.pass(1);
        edges.due("eventCount() at the arrival, without a deadline and with one", arriving.eventCount(), 0);
        arriving.pass(1);
        edges.due("eventCount() a tick behind the arrival", arriving.eventCount(), 1);
        latest(arriving, 0, 4, 1, 2);
        CoflowSimulator refused = edges.object();
        refused.setRules(true, true);
        Checks.group(refused, "0>0:101", 0, 1, 1);
        refused.pass(5);
        edges.due("eventCount() of a rejected group", refused.eventCount(), 1);
    }

    private void lateEventsInOrder() {
        CoflowSimulator x = edges.says(0, "(after step 4 of a tick; all events 1 of the tick come first, and those of "
                + "kind 4 in ascending order of the groups).");
        Checks.group(x, "0>0:900", 0, 1, 3);
        Checks.group(x, "1>1:100", 2, 1, 1);
        Checks.group(x, "2>2:800", 1, 1, 2);
        Checks.group(x, "3>3:300", 0, 1, 0);
        Checks.group(x, "4>4:700", 2, 1, 1);
        Checks.group(x, "5>5:700", 9, 1, 1);
        x.pass(2);
        edges.due("eventCount() before", x.eventCount(), 0);
        x.pass(1);
        edges.due("eventCount()", x.eventCount(), 6);
        latest(x, 5, 2, 3, 2);
        latest(x, 4, 1, 1, 3);
        latest(x, 3, 1, 3, 3);
        latest(x, 2, 4, 0, 3);
        latest(x, 1, 4, 2, 3);
        latest(x, 0, 4, 4, 3);
    }

    private void twentyEvents() {
        CoflowSimulator x = edges.says(0, "The latest 20 events are kept.");
        preempt(x, 19);
        edges.due("eventCount() of 19", x.eventCount(), 19);
        edges.due("event(19, 0)", x.event(19, 0), Edges.BAD_INDEX);
        x.setPolicy(1);
        x.pass(1);
        edges.due("eventCount() of 20", x.eventCount(), 20);
        latest(x, 19, 2, 0, 1);
        latest(x, 0, 2, 1, 20);
        x.setPolicy(0);
        x.pass(1);
        edges.due("eventCount() of 21", x.eventCount(), 20);
        edges.due("event(20, 0)", x.event(20, 0), Edges.BAD_INDEX);
        latest(x, 19, 2, 1, 2);
        latest(x, 0, 2, 0, 21);
        edges.due("preemptions() counts all", x.preemptions(), 21);
        x.undo();
        latest(x, 19, 2, 0, 1);
        latest(x, 0, 2, 1, 20);
        CoflowSimulator many = edges.object();
        preempt(many, 47);
        for (int back = 0; back < 20; back++) {
            latest(many, back, 2, back % 2, 47 - back);
        }
    }

    private void moved() {
        CoflowSimulator x = edges.says(34, "Returns how many units a port has sent or received.");
        Checks.group(x, "0>1:250,0>7:50");
        Checks.group(x, "7>1:30");
        x.pass(20);
        int[] want = {300, 0, 0, 0, 0, 0, 0, 30, 0, 280, 0, 0, 0, 0, 0, 50};
        for (int port = 0; port < 16; port++) {
            edges.due("moved(" + port + ")", x.moved(port), want[port]);
        }
        x = edges.says(34, "port: 0 to 7 for a sender, 8 to 15 for a receiver");
        Checks.group(x, "0>7:60,7>0:70");
        x.pass(1);
        edges.due("moved(-1)", x.moved(-1), Edges.BAD_INDEX);
        edges.due("moved(0)", x.moved(0), 60);
        edges.due("moved(7)", x.moved(7), 70);
        edges.due("moved(8)", x.moved(8), 70);
        edges.due("moved(15)", x.moved(15), 60);
        edges.due("moved(16)", x.moved(16), Edges.BAD_INDEX);
        x = edges.says(34, "Returns the number of units;");
        edges.due("moved(0) of a new object", x.moved(0), 0);
        Checks.setAll(x, 1000);
        for (int i = 0; i < 16; i++) {
            x.flow(0, i % 8, 100000);
        }
        x.addGroup(0, 1, 0);
        for (int i = 0; i < 4; i++) {
            x.pass(400);
        }
        edges.due("moved(0) of a group of 1600000 units", x.moved(0), 1600000);
        edges.due("moved(15)", x.moved(15), 200000);
        x.undo();
        edges.due("moved(0) behind undo", x.moved(0), 1200000);
        edges.says(34, "BAD_INDEX if there is no such port.");
        for (int port : new int[] {-1, 16, Integer.MIN_VALUE, Integer.MAX_VALUE}) {
            edges.refused("moved(" + port + ")", y -> preempt(y, 1), y -> y.moved(port), Edges.BAD_INDEX);
        }
    }

    private void preemptions() {
        CoflowSimulator x = edges.says(35, "Returns the number of preemptions.");
        edges.due("preemptions() of a new object", x.preemptions(), 0);
        preempt(x, 3);
        edges.due("preemptions()", x.preemptions(), 3);
        x = edges.says(35, "Returns the number.");
        preempt(x, 21);
        edges.due("preemptions() when the first event is not kept", x.preemptions(), 21);
        x.undo();
        edges.due("preemptions() behind undo", x.preemptions(), 20);
        x.outlook(0);
        x.total(1);
        edges.due("preemptions() behind ticks on copies", x.preemptions(), 20);
    }

    private void eventCount() {
        CoflowSimulator x = edges.says(36, "Returns the number of events that are kept.");
        edges.due("eventCount() of a new object", x.eventCount(), 0);
        preempt(x, 20);
        edges.due("eventCount() of 20", x.eventCount(), 20);
        x.setPolicy(0);
        x.pass(1);
        edges.due("eventCount() of 21", x.eventCount(), 20);
        x = edges.says(36, "Returns the number.");
        preempt(x, 1);
        edges.due("eventCount() of one", x.eventCount(), 1);
        x.undo();
        edges.due("eventCount() behind undo", x.eventCount(), 0);
    }

    private void event() {
        CoflowSimulator x = edges.says(37, "Returns a property of an event.");
        Checks.group(x, "0>0:100");
        x.pass(1);
        latest(x, 0, 1, 0, 1);
        x = edges.says(37, "event: 0 for the latest event, 1 for the one before, and so on");
        preempt(x, 3);
        edges.due("event(-1, 0)", x.event(-1, 0), Edges.BAD_INDEX);
        latest(x, 0, 2, 0, 3);
        latest(x, 1, 2, 1, 2);
        latest(x, 2, 2, 0, 1);
        edges.due("event(3, 0)", x.event(3, 0), Edges.BAD_INDEX);
        x = edges.says(37, "what: 0 its kind, 1 its group, 2 its time");
        x.setRules(true, true);
        x.pass(5);
        Checks.group(x, "0>0:100");
        Checks.group(x, "0>0:101", 0, 1, 1);
        edges.due("event(0, -1)", x.event(0, -1), Edges.BAD_VALUE);
        edges.due("event(0, 0)", x.event(0, 0), 3);
        edges.due("event(0, 1)", x.event(0, 1), 1);
        edges.due("event(0, 2)", x.event(0, 2), 5);
        edges.due("event(0, 3)", x.event(0, 3), Edges.BAD_VALUE);
        x = edges.says(37, "Returns the property;");
        preempt(x, 25);
        latest(x, 0, 2, 0, 25);
        latest(x, 19, 2, 1, 6);
        edges.says(37, "BAD_INDEX if there is no such event;");
        for (int event : new int[] {-1, 3, 20, Integer.MIN_VALUE, Integer.MAX_VALUE}) {
            edges.refused("event(" + event + ", 0) of three", y -> preempt(y, 3), y -> y.event(event, 0), Edges.BAD_INDEX);
            edges.refused("event(" + event + ", 3) of three", y -> preempt(y, 3), y -> y.event(event, 3), Edges.BAD_INDEX);
        }
        edges.refused("event(20, 0) of twenty", y -> preempt(y, 21), y -> y.event(20, 0), Edges.BAD_INDEX);
        edges.refused("event(-1, 0) of twenty", y -> preempt(y, 21), y -> y.event(-1, 0), Edges.BAD_INDEX);
        edges.refused("event(0, 0) of none", y -> y.flow(0, 0, 1), y -> y.event(0, 0), Edges.BAD_INDEX);
        edges.refused("event(0, 3) of none", y -> y.flow(0, 0, 1), y -> y.event(0, 3), Edges.BAD_INDEX);
        edges.says(37, "BAD_VALUE if what is out of range.");
        for (int what : new int[] {-1, 3, Integer.MIN_VALUE, Integer.MAX_VALUE}) {
            edges.refused("event(0, " + what + ")", y -> preempt(y, 1), y -> y.event(0, what), Edges.BAD_VALUE);
            edges.refused("event(19, " + what + ") of twenty", y -> preempt(y, 20), y -> y.event(19, what), Edges.BAD_VALUE);
        }
    }

    private static long mixed(long hash, long... numbers) {
        for (long number : numbers) {
            hash = 31 * hash + number;
        }
        return hash;
    }

    private void digestOfNew() {
        CoflowSimulator x = edges.says(38, "Returns a hash of the state. It begins with h = 17; for each of the following "
                + "numbers v, in this order, h becomes 31 * h + v (long arithmetic, with overflow): ");
        long hash = mixed(17, 0, 0, 1, 0, 0);
        for (int port = 0; port < 16; port++) {
            hash = mixed(hash, 100, 0);
        }
        hash = mixed(hash, 0);
        edges.due("digest() of a new object", x.digest(), hash);
        Checks.write(x, "0>1:5");
        edges.due("digest() with a text", x.digest(), hash);
        edges.due("undo(): digest() was not saved", x.undo(), Edges.BAD_STATE);
    }

    private static long withGroups(long before, CoflowSimulator x, int[] weights, int[] deadlines) {
        long hash = before;
        for (int group = 0; group < x.groupCount(); group++) {
            hash = mixed(hash, x.state(group), x.arrival(group), weights[group], deadlines[group], x.end(group));
            for (int flow = 0; flow < x.flowCount(group); flow++) {
                for (int what = 0; what < 5; what++) {
                    hash = mixed(hash, x.flowPart(group, flow, what));
                }
            }
        }
        return hash;
    }

    private static long withEvents(long before, CoflowSimulator x) {
        long hash = before;
        for (int back = x.eventCount() - 1; back >= 0; back--) {
            hash = mixed(hash, x.event(back, 0), x.event(back, 1), x.event(back, 2));
        }
        return hash;
    }

    /** A full draft, and twelve groups in all states, with more than twenty events. */
    private void digestOfFull() {
        CoflowSimulator x = edges.says(38, "time(), the policy, 1 or 0 for spare sharing, 1 or 0 for deadlines, "
                + "preemptions(); for each port its capacity and moved(); the number of flows of the draft, and for each "
                + "of them its sender, receiver and size; for each group its state(), arrival(), weight, deadline, end(), "
                + "and for each of its flows its sender, receiver, size, rest and rate in the latest tick; for each "
                + "event, the oldest one first, its kind, group and time.");
        int[] weights = new int[12];
        int[] deadlines = new int[12];
        preempt(x, 18);
        weights[0] = 1;
        weights[1] = 1;
        x.setRules(false, true);
        for (int group = 2; group < 12; group++) {
            weights[group] = 100 - group;
            deadlines[group] = group % 3 == 0 ? 0 : group % 3 == 1 ? 1 : 5;
            x.flow(group % 8, (group + 3) % 8, 20 * group);
            x.flow((group + 1) % 8, (group + 4) % 8, 7);
            x.addGroup(group % 4 * 3, weights[group], deadlines[group]);
        }
        x.setCapacity(3, 0);
        x.setCapacity(9, 1000);
        x.pass(3);
        long hash = mixed(17, 22, 1, 0, 1, x.preemptions());
        for (int port = 0; port < 16; port++) {
            hash = mixed(hash, port == 3 ? 0 : port == 9 ? 1000 : 100, x.moved(port));
        }
        hash = mixed(hash, 16);
        for (int flow = 0; flow < 16; flow++) {
            x.flow(flow % 8, 7 - flow % 8, 100000 - flow);
            hash = mixed(hash, flow % 8, 7 - flow % 8, 100000 - flow);
        }
        int[] states = new int[4];
        for (int group = 0; group < 12; group++) {
            states[x.state(group)]++;
        }
        edges.due("groups of all states", states[0] * states[1] * states[2] * states[3] == 0 ? 0 : 1, 1);
        edges.due("eventCount()", x.eventCount(), 20);
        edges.due("digest()", x.digest(), withEvents(withGroups(hash, x, weights, deadlines), x));
    }

    private void digestParts() {
        CoflowSimulator x = edges.says(38, "Returns h.");
        Checks.group(x, "0>0:500", 0, 1, 0);
        long first = x.digest();
        edges.due("digest() again", x.digest(), first);
        x.setRules(false, false);
        edges.due("sharing off", x.digest() == first ? 1 : 0, 0);
        x.undo();
        x.setRules(true, true);
        edges.due("deadlines on", x.digest() == first ? 1 : 0, 0);
        x.undo();
        x.setPolicy(5);
        edges.due("another policy", x.digest() == first ? 1 : 0, 0);
        x.undo();
        x.setCapacity(15, 99);
        edges.due("another capacity", x.digest() == first ? 1 : 0, 0);
        x.undo();
        x.flow(0, 0, 1);
        edges.due("another draft", x.digest() == first ? 1 : 0, 0);
        x.undo();
        edges.due("digest() when all is undone", x.digest(), first);
        Checks.write(x, "0>0:1");
        edges.due("digest() with another text", x.digest(), first);
    }
}
