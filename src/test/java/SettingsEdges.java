/** Groups, settings and time: promises 8 to 14, and what the description says of ports, admission and undo. */
final class SettingsEdges {
    private final Edges edges;

    SettingsEdges(Edges edges) {
        this.edges = edges;
    }

    void run() {
        capacities();
        weightsAndDeadlines();
        twelveGroups();
        addGroup();
        addGroupErrors();
        admittedOnlyIfItFits();
        committedFlows();
        committedGroups();
        committedTime();
        fits();
        rejected();
        setCapacity();
        setPolicy();
        setRules();
        pass();
        undo();
        time();
        savedStates();
        sixStates();
        manyCalls();
    }

    private CoflowSimulator withDeadlines() {
        CoflowSimulator x = edges.object();
        x.setRules(false, true);
        return x;
    }

    private static void oneFlow(CoflowSimulator x) {
        x.flow(0, 0, 100);
    }

    private static void fillGroups(CoflowSimulator x, int many) {
        for (int i = 0; i < many; i++) {
            x.flow(0, 0, 100 + i);
            x.addGroup(0, 1, 0);
        }
    }

    /** Twelve groups, and a draft for another. */
    private static void fullWithDraft(CoflowSimulator x) {
        fillGroups(x, 12);
        oneFlow(x);
    }

    private void capacities() {
        CoflowSimulator x = edges.says(0, "These 16 ports have capacities, in units per tick, from 0 to 1000 (100 at "
                + "first).");
        for (int port = 0; port < 16; port++) {
            edges.due("the first capacity of port " + port, x.setCapacity(port, 1000), 100);
            edges.due("setCapacity(" + port + ", 1001)", x.setCapacity(port, 1001), Edges.BAD_VALUE);
            edges.due("setCapacity(" + port + ", 0)", x.setCapacity(port, 0), 1000);
            edges.due("setCapacity(" + port + ", -1)", x.setCapacity(port, -1), Edges.BAD_VALUE);
            edges.due("setCapacity(" + port + ", 100)", x.setCapacity(port, 100), 0);
        }
        Checks.group(x, "0>0:100000");
        x.pass(1);
        edges.due("a tick with the capacity 100", x.rest(0), 99900);
        x.setCapacity(0, 1000);
        x.setCapacity(8, 1000);
        x.pass(1);
        edges.due("a tick with the capacity 1000", x.rest(0), 98900);
        x.setCapacity(8, 0);
        x.pass(1);
        edges.due("a tick with the capacity 0", x.rest(0), 98900);
        x.setCapacity(8, 1);
        x.pass(1);
        edges.due("a tick with the capacity 1", x.rest(0), 98899);
    }

    private void weightsAndDeadlines() {
        CoflowSimulator x = edges.says(0, "A group has an arrival time, a weight (1 to 100), a deadline (1 to 10000 "
                + "ticks, or 0 for none), and 1 to 16 flows, numbered from 0.");
        edges.due("a group without flows", x.addGroup(0, 1, 0), Edges.BAD_STATE);
        oneFlow(x);
        edges.due("weight 0", x.addGroup(0, 0, 0), Edges.BAD_VALUE);
        edges.due("weight 101", x.addGroup(0, 101, 0), Edges.BAD_VALUE);
        edges.due("deadline -1", x.addGroup(0, 1, -1), Edges.BAD_VALUE);
        edges.due("deadline 10001", x.addGroup(0, 1, 10001), Edges.BAD_VALUE);
        edges.due("one flow, weight 1, deadline 10000", x.addGroup(0, 1, 10000), 0);
        for (int i = 0; i < 16; i++) {
            x.flow(0, 0, 1);
        }
        edges.due("16 flows, weight 100, deadline 1", x.addGroup(0, 100, 1), 1);
        oneFlow(x);
        edges.due("deadline 0", x.addGroup(0, 1, 0), 2);
        edges.due("the first flow", x.flowPart(1, 0, 2), 1);
        edges.due("the last flow", x.flowPart(1, 15, 2), 1);
        edges.due("no flow", x.flowPart(1, 16, 2), Edges.BAD_INDEX);
        edges.due("no flow", x.flowPart(1, -1, 2), Edges.BAD_INDEX);
        edges.due("no second flow", x.flowPart(0, 1, 2), Edges.BAD_INDEX);
    }

    private void twelveGroups() {
        CoflowSimulator x = edges.says(0, "There are at most 12 groups, numbered from 0 in the order in which they were "
                + "added.");
        for (int i = 0; i < 12; i++) {
            x.flow(0, 0, 500 - i);
            edges.due("the number of group " + i, x.addGroup(12 - i, 1, 0), i);
        }
        x.flow(0, 0, 1);
        edges.due("the 13th group", x.addGroup(0, 1, 0), Edges.FULL);
        for (int i = 0; i < 12; i++) {
            edges.due("the size of group " + i, x.rest(i), 500 - i);
            edges.due("the arrival of group " + i, x.arrival(i), 12 - i);
        }
    }

    private void addGroup() {
        CoflowSimulator x = edges.says(8, "Makes a group of the flows of the draft, which is empty then; if deadlines are "
                + "on and it has a deadline, it is admitted or rejected. Undoable.");
        x.flow(1, 2, 30);
        x.flow(3, 4, 50);
        x.addGroup(0, 1, 0);
        edges.due("flowCount(0)", x.flowCount(0), 2);
        edges.due("rest(0)", x.rest(0), 80);
        edges.due("the draft", x.dropDraft(), 0);
        edges.undoable("addGroup(0, 1, 0)", SettingsEdges::oneFlow, y -> y.addGroup(0, 1, 0), 0);
        edges.undoable("the 12th group", y -> {
            fillGroups(y, 11);
            oneFlow(y);
        }, y -> y.addGroup(1000, 100, 10000), 11);
        edges.undoable("addGroup of what is rejected", y -> {
            y.setRules(true, true);
            y.flow(0, 0, 101);
        }, y -> y.addGroup(0, 1, 1), 0);

        x = edges.says(8, "delay: 0 to 1000: the arrival time is the time plus this");
        x.pass(7);
        oneFlow(x);
        edges.due("delay -1", x.addGroup(-1, 1, 0), Edges.BAD_VALUE);
        edges.due("delay 1001", x.addGroup(1001, 1, 0), Edges.BAD_VALUE);
        x.addGroup(0, 1, 0);
        oneFlow(x);
        x.addGroup(1000, 1, 0);
        edges.due("arrival(0)", x.arrival(0), 7);
        edges.due("state(0)", x.state(0), 1);
        edges.due("arrival(1)", x.arrival(1), 1007);
        edges.due("state(1)", x.state(1), 0);

        x = edges.says(8, "weight: 1 to 100");
        oneFlow(x);
        edges.due("weight 0", x.addGroup(0, 0, 0), Edges.BAD_VALUE);
        edges.due("weight 101", x.addGroup(0, 101, 0), Edges.BAD_VALUE);
        edges.due("weight 1", x.addGroup(0, 1, 0), 0);
        oneFlow(x);
        edges.due("weight 100", x.addGroup(0, 100, 0), 1);

        x = edges.says(8, "deadline: 1 to 10000, or 0 for none");
        x.setRules(true, true);
        x.flow(0, 0, 101);
        edges.due("deadline -1", x.addGroup(0, 1, -1), Edges.BAD_VALUE);
        edges.due("deadline 10001", x.addGroup(0, 1, 10001), Edges.BAD_VALUE);
        edges.due("deadline 0", x.addGroup(0, 1, 0), 0);
        edges.due("no deadline, so it is admitted", x.state(0), 1);
        x.flow(0, 0, 101);
        edges.due("deadline 1", x.addGroup(0, 1, 1), 1);
        edges.due("101 in a tick are rejected", x.state(1), 3);
        x.flow(0, 0, 101);
        edges.due("deadline 10000", x.addGroup(0, 1, 10000), 2);
        edges.due("101 in 10000 ticks are admitted", x.state(2), 1);
    }

    private void addGroupErrors() {
        CoflowSimulator x = edges.says(8, "Returns the number of the group;");
        oneFlow(x);
        edges.due("the first group", x.addGroup(0, 1, 0), 0);
        oneFlow(x);
        edges.due("the second group", x.addGroup(0, 1, 0), 1);
        x.undo();
        edges.due("the second group again", x.addGroup(0, 1, 0), 1);

        edges.says(8, "BAD_VALUE if an argument is out of range;");
        int[][] wrong = {{-1, 1, 0}, {1001, 1, 0}, {0, 0, 0}, {0, 101, 0}, {0, -1, 0}, {0, 1, -1}, {0, 1, 10001},
            {Integer.MIN_VALUE, 1, 0}, {Integer.MAX_VALUE, 1, 0}, {0, Integer.MIN_VALUE, 0}, {0, Integer.MAX_VALUE, 0},
            {0, 1, Integer.MIN_VALUE}, {0, 1, Integer.MAX_VALUE}, {1001, 101, 10001}};
        for (int[] of : wrong) {
            String call = "addGroup(" + of[0] + ", " + of[1] + ", " + of[2] + ")";
            edges.refused(call, SettingsEdges::oneFlow, y -> y.addGroup(of[0], of[1], of[2]), Edges.BAD_VALUE);
            edges.refused(call + " of an empty draft", y -> y.setPolicy(1), y -> y.addGroup(of[0], of[1], of[2]), Edges.BAD_VALUE);
            edges.refused(call + " of a full set", SettingsEdges::fullWithDraft, y -> y.addGroup(of[0], of[1], of[2]),
                    Edges.BAD_VALUE);
        }

        edges.says(8, "BAD_STATE if the draft is empty;");
        edges.refused("addGroup of an empty draft", y -> y.setPolicy(1), y -> y.addGroup(0, 1, 0), Edges.BAD_STATE);
        edges.refused("addGroup of a dropped draft", y -> {
            oneFlow(y);
            y.dropDraft();
        }, y -> y.addGroup(0, 1, 0), Edges.BAD_STATE);
        edges.refused("addGroup of an empty draft and a full set", y -> fillGroups(y, 12), y -> y.addGroup(0, 1, 0),
                Edges.BAD_STATE);

        edges.says(8, "FULL if there are 12 groups.");
        edges.refused("the 13th group", SettingsEdges::fullWithDraft, y -> y.addGroup(0, 1, 0), Edges.FULL);
        edges.refused("the 13th group when all are done", y -> {
            fullWithDraft(y);
            y.pass(100);
        }, y -> y.addGroup(0, 1, 0), Edges.FULL);
        edges.refused("the 13th group behind twelve that were rejected", y -> {
            y.setRules(true, true);
            for (int i = 0; i < 12; i++) {
                y.flow(0, 0, 101);
                y.addGroup(0, 1, 1);
            }
            oneFlow(y);
        }, y -> y.addGroup(0, 1, 1), Edges.FULL);
        x = edges.object();
        fullWithDraft(x);
        x.undo();
        x.undo();
        edges.due("there is room again behind undo()", x.addGroup(0, 1, 0), 11);
    }

    /** The state of a group that is added and taken back, by a draft of one flow. */
    private static int tried(CoflowSimulator x, int sender, int receiver, int size, int deadline) {
        x.flow(sender, receiver, size);
        int state = x.state(x.addGroup(0, 1, deadline));
        x.undo();
        x.undo();
        return state;
    }

    /** A flow of such a size fits at sender 0 and some receiver within ten ticks, but not a unit more. */
    private void justFits(String what, CoflowSimulator x, int receiver, int size) {
        edges.due(what + ": " + size + " fit", tried(x, 0, receiver, size, 10), 1);
        edges.due(what + ": " + size + " fit beside what was taken back", tried(x, 0, receiver, size, 10), 1);
        edges.due(what + ": " + (size + 1) + " don't fit", tried(x, 0, receiver, size + 1, 10), 3);
    }

    private void admittedOnlyIfItFits() {
        CoflowSimulator x = edges.says(0, "When a group is added while deadlines are on, and it has a deadline d, it is "
                + "admitted only if it fits:");
        edges.due("with deadlines off", tried(x, 0, 0, 101, 1), 1);
        x.setRules(true, true);
        edges.due("with deadlines on, 101 in a tick", tried(x, 0, 0, 101, 1), 3);
        edges.due("with deadlines on, 100 in a tick", tried(x, 0, 0, 100, 1), 1);
        edges.due("with deadlines on, without a deadline", tried(x, 0, 0, 101, 0), 1);
        x.setRules(true, false);
        edges.due("with deadlines off again", tried(x, 0, 0, 101, 1), 1);
        x.flow(0, 0, 101);
        x.addGroup(0, 1, 1);
        x.setRules(true, true);
        edges.due("what was admitted stays", x.state(0), 1);
    }

    private void committedFlows() {
        edges.says(0, "let the committed rates of a flow that is not done, of a group that has a deadline, ");
        CoflowSimulator x = withDeadlines();
        Checks.group(x, "0>0:500", 0, 1, 10);
        justFits("beside 500 in 10 ticks", x, 1, 500);
        x = withDeadlines();
        Checks.group(x, "0>0:500");
        justFits("beside a group without a deadline", x, 1, 1000);
        x = withDeadlines();
        Checks.group(x, "0>0:500", 0, 1, 10);
        x.setRules(false, false);
        x.pass(5);
        x.setRules(false, true);
        justFits("beside a flow that is done", x, 1, 1000);
        x = withDeadlines();
        Checks.group(x, "0>0:50,1>1:1000", 0, 1, 10);
        justFits("beside one flow of two", x, 2, 950);
        x.setRules(true, false);
        x.pass(1);
        x.setRules(false, true);
        edges.due("the first flow is done", x.flowPart(0, 0, 3), 0);
        edges.due("the group is active", x.state(0), 1);
        justFits("beside a flow that is done, of an active group", x, 2, 1000);
        x = withDeadlines();
        for (int flow = 0; flow < 16; flow++) {
            x.flow(0, flow % 8, 10);
        }
        x.addGroup(0, 1, 10);
        justFits("beside sixteen flows of one unit a tick", x, 0, 840);
    }

    private void committedGroups() {
        edges.says(0, "and is waiting or active, ");
        CoflowSimulator x = withDeadlines();
        Checks.group(x, "0>0:300", 1, 1, 10);
        justFits("beside a waiting group", x, 1, 700);
        x.pass(1);
        justFits("beside an active group", x, 1, 700);
        x.pass(10);
        edges.due("the group is done", x.state(0), 2);
        justFits("beside a done group", x, 1, 1000);
        Checks.group(x, "0>0:2000", 0, 1, 10);
        edges.due("the group is rejected", x.state(1), 3);
        justFits("beside a rejected group", x, 1, 1000);
        Checks.group(x, "0>0:100", 1000, 1, 10);
        justFits("beside a group that waits for long", x, 1, 900);
    }

    private void committedTime() {
        edges.says(0, "be its rest / D, rounded up, where D is the time at which the deadline of that group ends minus "
                + "the greater one of the time and its arrival time, if D is positive, and its rest otherwise.");
        CoflowSimulator x = withDeadlines();
        Checks.setAll(x, 1000);
        Checks.group(x, "0>0:101", 2, 1, 4);
        Checks.setAll(x, 0);
        int[] rates = {26, 26, 26, 34, 51, 101, 101, 101};
        for (int time = 0; time < rates.length; time++) {
            Checks.setAll(x, 200);
            justFits("beside the rate " + rates[time] + " at the time " + time, x, 1, 2000 - 10 * rates[time]);
            Checks.setAll(x, 0);
            x.pass(1);
        }
        x = withDeadlines();
        Checks.group(x, "0>0:30", 0, 1, 1);
        justFits("beside 30 in a tick", x, 1, 700);
        x = withDeadlines();
        Checks.group(x, "0>0:100000", 0, 1, 10000);
        justFits("beside 100000 in 10000 ticks", x, 1, 900);
        x = withDeadlines();
        Checks.group(x, "0>0:100", 0, 1, 10);
        justFits("beside 100 in 10 ticks", x, 1, 900);
        x = withDeadlines();
        Checks.group(x, "0>0:91", 0, 1, 10);
        justFits("beside 91 in 10 ticks", x, 1, 900);
        x = withDeadlines();
        Checks.group(x, "0>0:90", 0, 1, 10);
        justFits("beside 90 in 10 ticks", x, 1, 910);
        x = withDeadlines();
        Checks.group(x, "0>0:9,0>1:1", 0, 1, 10);
        justFits("beside two rates of 1", x, 2, 980);
    }

    private void fits() {
        CoflowSimulator x = edges.says(0, "The group fits if for each port the sum of all committed rates of flows that "
                + "use it, and of size / d, rounded up, over the flows of the new group that use it, is at most its "
                + "capacity.");
        x.setRules(false, true);
        justFits("alone", x, 0, 1000);
        x.setCapacity(0, 1000);
        justFits("by the receiver", x, 0, 1000);
        x.setCapacity(8, 1000);
        justFits("with more capacity", x, 0, 10000);
        x.setCapacity(8, 1);
        justFits("with the capacity 1", x, 0, 10);
        x.setCapacity(8, 0);
        edges.due("without capacity", tried(x, 0, 0, 1, 10000), 3);
        edges.due("without capacity of another port", tried(x, 0, 1, 1, 10000), 1);
        String[] good = {"0>0:500,0>1:500", "0>0:500,1>0:500", "0>0:990,0>1:1,1>1:990", "5>5:10000"};
        String[] bad = {"0>0:500,0>1:501", "0>0:500,1>0:501", "0>0:990,0>1:1,1>1:991", "5>5:10001"};
        for (int i = 0; i < good.length; i++) {
            CoflowSimulator y = withDeadlines();
            y.setCapacity(5, 1000);
            y.setCapacity(13, 1000);
            edges.due(good[i], y.state(Checks.group(y, good[i], 0, 1, 10)), 1);
            CoflowSimulator z = withDeadlines();
            z.setCapacity(5, 1000);
            z.setCapacity(13, 1000);
            edges.due(bad[i], z.state(Checks.group(z, bad[i], 0, 1, 10)), 3);
        }
        CoflowSimulator other = withDeadlines();
        Checks.group(other, "7>7:1000", 0, 1, 10);
        edges.due("beside a full port that it doesn't use", tried(other, 0, 0, 1, 10), 1);
        other.setCapacity(15, 99);
        edges.due("beside an overfull port", tried(other, 0, 0, 1, 10), 3);
        edges.due("beside an overfull port, without a deadline", tried(other, 0, 0, 1, 0), 1);
    }

    private void rejected() {
        CoflowSimulator x = edges.says(0, "Otherwise it is rejected; it keeps its number.");
        x.setRules(true, true);
        edges.due("the number of a rejected group", Checks.group(x, "0>0:101", 0, 1, 1), 0);
        edges.due("the number of the next group", Checks.group(x, "0>0:100", 0, 1, 1), 1);
        edges.due("groupCount()", x.groupCount(), 2);
        edges.due("state(0)", x.state(0), 3);
        edges.due("state(1)", x.state(1), 1);
        edges.due("the flows that it keeps", x.flowCount(0), 1);
        edges.due("the draft is empty", x.dropDraft(), 0);

        x = edges.says(0, "A group that was rejected (below) is neither waiting nor active nor done, and sends nothing.");
        x.setRules(true, true);
        Checks.group(x, "0>0:101", 2, 1, 1);
        for (int time = 0; time < 6; time++) {
            edges.due("state(0) at the time " + time, x.state(0), 3);
            edges.due("rest(0)", x.rest(0), 101);
            edges.due("end(0)", x.end(0), Edges.NONE);
            edges.due("place(0)", x.place(0), Edges.NONE);
            edges.due("bound()", x.bound(), 0);
            edges.due("no group is active", x.pass(1), 0);
        }
        edges.due("moved(0)", x.moved(0), 0);
        x.setRules(true, false);
        edges.due("it stays so with deadlines off", x.pass(5), 0);
        edges.due("state(0)", x.state(0), 3);
    }

    private void setCapacity() {
        CoflowSimulator x = edges.says(9, "Sets the capacity of a port. Undoable.");
        x.setCapacity(3, 7);
        for (int port = 0; port < 16; port++) {
            edges.due("spare(" + port + ")", x.spare(port), port == 3 ? 7 : 100);
        }
        edges.undoable("setCapacity(3, 7)", y -> y.setPolicy(1), y -> y.setCapacity(3, 7), 100);
        edges.undoable("setCapacity that changes nothing", y -> y.setPolicy(1), y -> y.setCapacity(15, 100), 100);

        x = edges.says(9, "port: 0 to 7 for a sender, 8 to 15 for a receiver");
        edges.due("setCapacity(-1, 5)", x.setCapacity(-1, 5), Edges.BAD_INDEX);
        edges.due("setCapacity(16, 5)", x.setCapacity(16, 5), Edges.BAD_INDEX);
        Checks.group(x, "0>7:1000,7>0:1000");
        x.setCapacity(0, 60);
        x.setCapacity(15, 70);
        x.setCapacity(7, 50);
        x.setCapacity(8, 40);
        edges.due("by sender 0", x.nextRate(0, 0), 60);
        edges.due("by receiver 0", x.nextRate(0, 1), 40);
        x.setCapacity(0, 100);
        x.setCapacity(8, 100);
        edges.due("by receiver 7", x.nextRate(0, 0), 70);
        edges.due("by sender 7", x.nextRate(0, 1), 50);

        x = edges.says(9, "capacity: 0 to 1000");
        edges.due("setCapacity(0, -1)", x.setCapacity(0, -1), Edges.BAD_VALUE);
        edges.due("setCapacity(0, 0)", x.setCapacity(0, 0), 100);
        edges.due("setCapacity(0, 1000)", x.setCapacity(0, 1000), 0);
        edges.due("setCapacity(0, 1001)", x.setCapacity(0, 1001), Edges.BAD_VALUE);

        x = edges.says(9, "Returns the previous capacity;");
        edges.due("setCapacity(8, 5)", x.setCapacity(8, 5), 100);
        edges.due("setCapacity(8, 6)", x.setCapacity(8, 6), 5);
        edges.due("setCapacity(8, 6) again", x.setCapacity(8, 6), 6);
        x.undo();
        x.undo();
        edges.due("setCapacity(8, 6) behind undo", x.setCapacity(8, 6), 5);

        edges.says(9, "BAD_INDEX if there is no such port;");
        for (int port : new int[] {-1, 16, Integer.MIN_VALUE, Integer.MAX_VALUE}) {
            edges.refused("setCapacity(" + port + ", 5)", y -> y.setPolicy(1), y -> y.setCapacity(port, 5), Edges.BAD_INDEX);
            edges.refused("setCapacity(" + port + ", -1)", y -> y.setPolicy(1), y -> y.setCapacity(port, -1), Edges.BAD_INDEX);
        }

        edges.says(9, "BAD_VALUE if capacity is out of range.");
        for (int capacity : new int[] {-1, 1001, Integer.MIN_VALUE, Integer.MAX_VALUE}) {
            edges.refused("setCapacity(0, " + capacity + ")", y -> y.setPolicy(1), y -> y.setCapacity(0, capacity),
                    Edges.BAD_VALUE);
            edges.refused("setCapacity(15, " + capacity + ")", y -> y.setPolicy(1), y -> y.setCapacity(15, capacity),
                    Edges.BAD_VALUE);
        }
    }

    private void setPolicy() {
        CoflowSimulator x = edges.says(10, "Sets the policy. Undoable.");
        Checks.group(x, "0>0:300");
        Checks.group(x, "1>1:200");
        edges.due("place(0) by policy 0", x.place(0), 1);
        x.setPolicy(1);
        edges.due("place(0) by policy 1", x.place(0), 0);
        edges.undoable("setPolicy(5)", y -> y.setPolicy(1), y -> y.setPolicy(5), 1);
        edges.undoable("setPolicy that changes nothing", y -> y.setPolicy(1), y -> y.setPolicy(1), 1);

        x = edges.says(10, "policy: 0 to 5");
        edges.due("setPolicy(-1)", x.setPolicy(-1), Edges.BAD_VALUE);
        edges.due("setPolicy(6)", x.setPolicy(6), Edges.BAD_VALUE);
        for (int policy = 0; policy <= 5; policy++) {
            edges.due("setPolicy(" + policy + ")", x.setPolicy(policy), Math.max(0, policy - 1));
        }

        x = edges.says(10, "Returns the previous policy;");
        edges.due("setPolicy(5) of a new object", x.setPolicy(5), 0);
        edges.due("setPolicy(0)", x.setPolicy(0), 5);
        x.undo();
        edges.due("setPolicy(0) behind undo", x.setPolicy(0), 5);

        edges.says(10, "BAD_VALUE if policy is out of range.");
        for (int policy : new int[] {-1, 6, Integer.MIN_VALUE, Integer.MAX_VALUE}) {
            edges.refused("setPolicy(" + policy + ")", y -> y.setPolicy(3), y -> y.setPolicy(policy), Edges.BAD_VALUE);
        }
    }

    private void setRules() {
        CoflowSimulator x = edges.says(11, "Turns spare sharing and deadlines on or off. Undoable.");
        edges.undoable("setRules(false, true)", y -> y.setPolicy(1), y -> y.setRules(false, true), 1);
        edges.undoable("setRules that changes nothing", y -> y.setPolicy(1), y -> y.setRules(true, false), 1);
        Checks.group(x, "0>1:250,0>2:150", 0, 1, 100);
        edges.due("nextRate(0, 0) at first", x.nextRate(0, 0), 70);
        x.setRules(false, false);
        edges.due("nextRate(0, 0)", x.nextRate(0, 0), 50);
        x.setRules(false, true);
        edges.due("nextRate(0, 0)", x.nextRate(0, 0), 3);
        x.setRules(true, true);
        edges.due("nextRate(0, 0)", x.nextRate(0, 0), 98);

        x = edges.says(11, "sharing: true if spare sharing is on");
        Checks.group(x, "0>1:250,0>2:150");
        edges.due("nextRate(0, 0) at first", x.nextRate(0, 0), 70);
        x.setRules(false, false);
        edges.due("nextRate(0, 0) without sharing", x.nextRate(0, 0), 50);
        x.setRules(true, false);
        edges.due("nextRate(0, 0) with sharing", x.nextRate(0, 0), 70);

        x = edges.says(11, "deadlines: true if deadlines are on");
        edges.due("at first", tried(x, 0, 0, 101, 1), 1);
        x.setRules(true, true);
        edges.due("with deadlines", tried(x, 0, 0, 101, 1), 3);
        x.setRules(true, false);
        edges.due("without deadlines", tried(x, 0, 0, 101, 1), 1);

        x = edges.says(11, "Returns 1 if spare sharing was on, plus 2 if deadlines were on.");
        edges.due("setRules(true, true) of a new object", x.setRules(true, true), 1);
        edges.due("setRules(false, true)", x.setRules(false, true), 3);
        edges.due("setRules(false, false)", x.setRules(false, false), 2);
        edges.due("setRules(true, false)", x.setRules(true, false), 0);
        edges.due("setRules(true, false) again", x.setRules(true, false), 1);
    }

    private void pass() {
        CoflowSimulator x = edges.says(12, "Does ticks. Undoable.");
        Checks.group(x, "0>0:300");
        x.pass(2);
        edges.due("rest(0) behind two ticks", x.rest(0), 100);
        edges.undoable("pass(1)", y -> Checks.group(y, "0>0:100"), y -> y.pass(1), 0);
        edges.undoable("pass(500)", y -> Checks.group(y, "0>0:100000", 3, 1, 9), y -> y.pass(500), 1);
        edges.undoable("pass(1) without groups", y -> y.setPolicy(1), y -> y.pass(1), 0);

        x = edges.says(12, "many: how many, 1 to 500");
        edges.due("pass(0)", x.pass(0), Edges.BAD_VALUE);
        edges.due("pass(501)", x.pass(501), Edges.BAD_VALUE);
        edges.due("pass(1)", x.pass(1), 0);
        edges.due("time()", x.time(), 1);
        edges.due("pass(500)", x.pass(500), 0);
        edges.due("time()", x.time(), 501);

        x = edges.says(12, "Returns how many groups are active then;");
        edges.due("without groups", x.pass(1), 0);
        Checks.group(x, "0>0:200");
        Checks.group(x, "1>1:300");
        Checks.group(x, "2>2:100", 3, 1, 0);
        edges.due("both are active, the third waits", x.pass(1), 2);
        edges.due("the first is done", x.pass(1), 1);
        edges.due("the second is done, the third is active", x.pass(1), 1);
        edges.due("all are done", x.pass(1), 0);
        fillGroups(x, 9);
        x.setCapacity(0, 0);
        edges.due("nine are active", x.pass(1), 9);

        edges.says(12, "BAD_VALUE if many is out of range.");
        for (int many : new int[] {0, -1, 501, Integer.MIN_VALUE, Integer.MAX_VALUE}) {
            edges.refused("pass(" + many + ")", y -> Checks.group(y, "0>0:1000"), y -> y.pass(many), Edges.BAD_VALUE);
        }
    }

    private void undo() {
        CoflowSimulator x = edges.says(13, "Undoes the latest call that can be undone: the state becomes as before it.");
        Checks.group(x, "0>0:300");
        long before = x.digest();
        x.pass(1);
        long between = x.digest();
        x.setCapacity(0, 5);
        x.type(48);
        x.total(0);
        x.setPolicy(9);
        x.undo();
        edges.due("digest() behind the first undo()", x.digest(), between);
        x.undo();
        edges.due("digest() behind the second undo()", x.digest(), before);
        x.pass(1);
        edges.due("digest() behind the same call again", x.digest(), between);

        x = edges.says(13, "Returns the number of saved states that are left;");
        for (int i = 0; i < 6; i++) {
            x.setPolicy(i % 6);
        }
        for (int left = 5; left >= 0; left--) {
            edges.due("undo()", x.undo(), left);
        }
        x.setPolicy(1);
        x.setPolicy(2);
        edges.due("undo() of two", x.undo(), 1);
        x.setPolicy(3);
        edges.due("undo() of two again", x.undo(), 1);

        edges.says(13, "BAD_STATE if there is none.");
        edges.refused("undo() of a new object", y -> { }, CoflowSimulator::undo, Edges.BAD_STATE);
        edges.refused("undo() when all is undone", y -> {
            Checks.group(y, "0>0:300");
            y.undo();
            y.undo();
        }, CoflowSimulator::undo, Edges.BAD_STATE);
        edges.refused("undo() behind a text", y -> Checks.write(y, "0>0:1"), CoflowSimulator::undo, Edges.BAD_STATE);
        edges.refused("undo() behind errors", y -> y.pass(0), CoflowSimulator::undo, Edges.BAD_STATE);
    }

    private void time() {
        CoflowSimulator x = edges.says(0, "Time goes in ticks; the time is the number of ticks that have passed (0 at "
                + "first).");
        edges.due("time() of a new object", x.time(), 0);
        x.pass(1);
        edges.due("time() behind one tick", x.time(), 1);
        x.pass(500);
        edges.due("time() behind 501 ticks", x.time(), 501);
        x.undo();
        edges.due("time() behind undo", x.time(), 1);

        x = edges.says(14, "Returns the time.");
        x.pass(3);
        edges.due("time()", x.time(), 3);
        edges.due("undo(): time() was not saved", x.undo(), 0);

        x = edges.says(14, "Returns the number of ticks that have passed.");
        edges.due("time() of a new object", x.time(), 0);
        x.pass(500);
        x.pass(500);
        edges.due("time() behind 1000 ticks", x.time(), 1000);
        Checks.group(x, "0>0:300");
        x.outlook(0);
        x.total(0);
        x.bestOrder();
        x.nextRate(0, 0);
        edges.due("time() behind ticks on copies", x.time(), 1000);
    }

    private void savedStates() {
        edges.says(0, "The methods that are said to be undoable save the whole state, except the text, before each call "
                + "that returns no error, even if it changes nothing.");
        CoflowSimulator x = edges.object();
        x.setCapacity(0, 100);
        x.setPolicy(0);
        x.setRules(true, false);
        x.dropDraft();
        edges.due("undo() of the fourth call that changed nothing", x.undo(), 3);
        Checks.write(x, "0>1:5");
        x.read();
        x.type('0');
        edges.due("undo() of read()", x.undo(), 3);
        edges.due("the text is as long as before undo()", x.clearText(), 6);
        edges.due("the draft is empty", x.dropDraft(), 0);
        x.undo();
        edges.due("undo() leaves the text empty", x.textFault(), 0);
        edges.due("undo()", x.undo(), 2);
        x.flow(8, 0, 1);
        x.read();
        x.addGroup(0, 1, 0);
        x.setCapacity(0, 1001);
        x.setPolicy(6);
        x.pass(0);
        edges.due("undo(): errors were not saved", x.undo(), 1);

        edges.undoable("pass(9) of a state with all kinds of parts", y -> {
            y.setRules(true, true);
            Checks.group(y, "0>0:900,1>1:5", 0, 9, 9);
            Checks.group(y, "0>0:5000", 0, 1, 1);
            Checks.group(y, "1>1:50", 2, 1, 0);
            y.pass(1);
            y.flow(4, 4, 4);
        }, y -> y.pass(9), 0);
        edges.undoable("pass(1) with a preemption", y -> {
            Checks.group(y, "0>0:1000");
            Checks.group(y, "0>0:800");
            y.setPolicy(1);
            y.pass(1);
            y.setPolicy(0);
        }, y -> y.pass(1), 2);
        edges.undoable("pass(1) that pushes out events of another kind", y -> {
            y.setRules(true, true);
            for (int i = 0; i < 8; i++) {
                Checks.group(y, "0>0:101", 0, 1, 1);
            }
            Checks.group(y, "0>0:100000");
            Checks.group(y, "0>0:90000");
            y.setPolicy(1);
            y.pass(1);
            for (int i = 1; i <= 12; i++) {
                y.setPolicy(i % 2 == 0 ? 1 : 0);
                y.pass(1);
            }
            Checks.group(y, "7>7:1");
        }, y -> y.pass(1), 2);
    }

    private void sixStates() {
        CoflowSimulator x = edges.says(0, "The latest 6 saved states are kept.");
        long[] before = new long[9];
        for (int i = 1; i < 9; i++) {
            before[i] = x.digest();
            x.flow(0, 0, i);
        }
        for (int i = 8; i > 2; i--) {
            edges.due("undo()", x.undo(), i - 3);
            edges.due("digest() behind it", x.digest(), before[i]);
        }
        edges.due("the seventh undo()", x.undo(), Edges.BAD_STATE);
        edges.due("digest() behind it", x.digest(), before[3]);
        edges.due("two flows are left", x.dropDraft(), 2);
        edges.due("undo() of the latest call alone", x.undo(), 0);
        CoflowSimulator turning = edges.object();
        long[] latest = new long[40];
        int next = 0;
        for (int round = 0; round < 4; round++) {
            for (int i = 0; i < 10; i++) {
                latest[next] = turning.digest();
                turning.pass(1);
                next++;
            }
            for (int left = 5; left > round; left--) {
                next--;
                edges.due("undo() in round " + round, turning.undo(), left);
                edges.due("digest() behind it", turning.digest(), latest[next]);
            }
        }
    }

    private void manyCalls() {
        edges.says(14, "Returns the number of ticks that have passed.");
        CoflowSimulator x = new CoflowSimulator();
        for (int i = 0; i < 507; i++) {
            x.pass(500);
        }
        x.flow(0, 0, 101);
        x.addGroup(1000, 100, 10000);
        x.pass(1);
        edges.due("time() as call 511", x.time(), 253501);
        edges.due("outlook(0) as call 512", x.outlook(0), Edges.NONE);
        CoflowSimulator y = new CoflowSimulator();
        for (int i = 0; i < 504; i++) {
            y.pass(500);
        }
        y.flow(0, 0, 101);
        y.addGroup(998, 100, 10000);
        edges.due("outlook(0) of a group that waits, late", y.outlook(0), 252000 + 998 + 2);
        edges.due("arrival(0), late", y.arrival(0), 252998);
    }
}
