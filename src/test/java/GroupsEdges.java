/** Groups and flows: promises 15 to 23, and what the description says of rests, states, levels and spans. */
final class GroupsEdges {
    private final Edges edges;

    GroupsEdges(Edges edges) {
        this.edges = edges;
    }

    void run() {
        rests();
        states();
        groupCount();
        state();
        arrival();
        end();
        flowCount();
        flowPart();
        rest();
        level();
        leastSpan();
        spanOfWhatIsNotDone();
        noSpan();
        loneSpan();
    }

    private interface Question {
        long ask(CoflowSimulator x, int group);
    }

    private static void threeGroups(CoflowSimulator x) {
        Checks.group(x, "0>0:100");
        Checks.group(x, "1>1:200");
        Checks.group(x, "2>2:300", 5, 1, 0);
        x.pass(1);
    }

    private static void twelveGroups(CoflowSimulator x) {
        for (int i = 0; i < 12; i++) {
            x.flow(0, 0, 100);
            x.addGroup(0, 1, 0);
        }
    }

    /** The last group is there, the one behind it is not, on both sides, and none is of a new object. */
    private void groupsOnly(String method, Question question) {
        for (int group : new int[] {-1, 3, 11, 12, Integer.MIN_VALUE, Integer.MAX_VALUE}) {
            edges.refused(method + " of group " + group + " of three", GroupsEdges::threeGroups, y -> question.ask(y, group),
                    Edges.BAD_INDEX);
        }
        edges.refused(method + " of group 12 of twelve", GroupsEdges::twelveGroups, y -> question.ask(y, 12), Edges.BAD_INDEX);
        edges.refused(method + " of group 0 of none", y -> y.flow(0, 0, 1), y -> question.ask(y, 0), Edges.BAD_INDEX);
        CoflowSimulator three = edges.object();
        threeGroups(three);
        CoflowSimulator twelve = edges.object();
        twelveGroups(twelve);
        edges.due(method + " of group 0 of three", question.ask(three, 0) == Edges.BAD_INDEX ? 1 : 0, 0);
        edges.due(method + " of group 2 of three", question.ask(three, 2) == Edges.BAD_INDEX ? 1 : 0, 0);
        edges.due(method + " of group 11 of twelve", question.ask(twelve, 11) == Edges.BAD_INDEX ? 1 : 0, 0);
        twelve.undo();
        edges.due(method + " of group 11 behind undo", question.ask(twelve, 11), Edges.BAD_INDEX);
    }

    private void rests() {
        CoflowSimulator x = edges.says(0, "What a flow has not sent yet is its rest.");
        Checks.group(x, "0>0:100000");
        edges.due("the rest of a new flow", x.flowPart(0, 0, 3), 100000);
        x.pass(1);
        edges.due("the rest behind 100 units", x.flowPart(0, 0, 3), 99900);
        x.undo();
        edges.due("the rest behind undo", x.flowPart(0, 0, 3), 100000);

        x = edges.says(0, "A flow is done when its rest is 0.");
        Checks.group(x, "0>0:101,1>1:500");
        x.setCapacity(0, 100);
        x.pass(1);
        x.setPolicy(3);
        Checks.group(x, "2>2:500");
        edges.due("the rest of flow 0", x.flowPart(0, 0, 3), 1);
        edges.due("two flows are not done, with a rest of 1", x.place(0), 1);
        x.pass(1);
        edges.due("the rest of flow 0", x.flowPart(0, 0, 3), 0);
        edges.due("one flow is not done, with a rest of 0", x.place(0), 0);
    }

    private void states() {
        CoflowSimulator x = edges.says(0, "A group is waiting as long as the time is less than its arrival time;");
        Checks.group(x, "0>0:500", 3, 1, 0);
        Checks.group(x, "1>1:500", 0, 1, 0);
        Checks.group(x, "2>2:500", 1, 1, 0);
        int[][] want = {{0, 1, 0}, {0, 1, 1}, {0, 1, 1}, {1, 1, 1}};
        for (int time = 0; time < 4; time++) {
            for (int group = 0; group < 3; group++) {
                edges.due("state(" + group + ") at the time " + time, x.state(group), want[time][group]);
            }
            x.pass(1);
        }
        edges.due("a waiting group sent nothing before its arrival time", x.rest(0), 400);

        x = edges.says(0, "then it is active until all its flows are done;");
        Checks.group(x, "0>0:100,1>1:201");
        x.pass(1);
        edges.due("one flow is done", x.state(0), 1);
        x.pass(1);
        edges.due("a unit is left", x.rest(0), 1);
        edges.due("a unit is left", x.state(0), 1);
        x.pass(1);
        edges.due("nothing is left", x.state(0), 2);

        x = edges.says(0, "then it is done, and its end is the time at which that happened.");
        Checks.group(x, "0>0:100,1>1:201");
        Checks.group(x, "2>2:100", 2, 1, 0);
        x.pass(2);
        edges.due("end(0) before it", x.end(0), Edges.NONE);
        x.pass(1);
        edges.due("end(0)", x.end(0), 3);
        edges.due("end(1)", x.end(1), 3);
        x.pass(500);
        edges.due("end(0) later", x.end(0), 3);
        edges.due("state(0) later", x.state(0), 2);
    }

    private void groupCount() {
        CoflowSimulator x = edges.says(15, "Returns the number of groups.");
        edges.due("groupCount() of a new object", x.groupCount(), 0);
        twelveGroups(x);
        edges.due("groupCount() of a full set", x.groupCount(), 12);
        x.flow(0, 0, 1);
        x.addGroup(0, 1, 0);
        edges.due("groupCount() behind a group without room", x.groupCount(), 12);

        x = edges.says(15, "Returns the number, with those that are done or rejected.");
        x.setRules(true, true);
        Checks.group(x, "0>0:100");
        edges.due("groupCount()", x.groupCount(), 1);
        Checks.group(x, "0>0:101", 0, 1, 1);
        edges.due("groupCount() with a rejected one", x.groupCount(), 2);
        x.pass(1);
        edges.due("groupCount() with a done one", x.groupCount(), 2);
        Checks.group(x, "0>0:100", 5, 1, 0);
        edges.due("groupCount() with a waiting one", x.groupCount(), 3);
        x.undo();
        edges.due("groupCount() behind undo", x.groupCount(), 2);
    }

    private void groupNumber(int promise) {
        CoflowSimulator x = edges.says(promise, "group: number of the group");
        twelveGroups(x);
        edges.due("arrival(0)", x.arrival(0), 0);
        edges.due("arrival(11)", x.arrival(11), 0);
        edges.due("arrival(12)", x.arrival(12), Edges.BAD_INDEX);
        edges.due("arrival(-1)", x.arrival(-1), Edges.BAD_INDEX);
    }

    private void state() {
        CoflowSimulator x = edges.says(16, "Returns the state of a group.");
        Checks.group(x, "0>0:100");
        Checks.group(x, "0>0:100");
        x.pass(1);
        edges.due("state(0)", x.state(0), 2);
        edges.due("state(1)", x.state(1), 1);
        edges.says(16, "group: number of the group");
        groupsOnly("state", CoflowSimulator::state);

        x = edges.says(16, "Returns 0 waiting, 1 active, 2 done, 3 rejected;");
        x.setRules(true, true);
        Checks.group(x, "0>0:100", 1, 1, 0);
        Checks.group(x, "0>0:101", 0, 1, 1);
        edges.due("a waiting group", x.state(0), 0);
        edges.due("a rejected group", x.state(1), 3);
        x.pass(1);
        edges.due("an active group", x.state(0), 1);
        x.pass(1);
        edges.due("a done group", x.state(0), 2);
        edges.due("a rejected group", x.state(1), 3);
        edges.says(16, "BAD_INDEX if there is no such group.");
        groupsOnly("state", CoflowSimulator::state);
    }

    private void arrival() {
        CoflowSimulator x = edges.says(17, "Returns the arrival time of a group.");
        x.pass(4);
        Checks.group(x, "0>0:100", 0, 1, 0);
        Checks.group(x, "0>0:100", 1000, 1, 0);
        edges.due("arrival(0)", x.arrival(0), 4);
        edges.due("arrival(1)", x.arrival(1), 1004);
        groupNumber(17);

        x = edges.says(17, "Returns the arrival time;");
        x.setRules(true, true);
        Checks.group(x, "0>0:100", 2, 1, 0);
        Checks.group(x, "0>0:101", 3, 1, 1);
        edges.due("arrival(0) of a waiting group", x.arrival(0), 2);
        edges.due("arrival(1) of a rejected group", x.arrival(1), 3);
        x.pass(2);
        edges.due("arrival(0) of an active group", x.arrival(0), 2);
        x.pass(1);
        edges.due("arrival(0) of a done group", x.arrival(0), 2);
        edges.says(17, "BAD_INDEX if there is no such group.");
        groupsOnly("arrival", CoflowSimulator::arrival);
    }

    private void end() {
        CoflowSimulator x = edges.says(18, "Returns the end of a group.");
        Checks.group(x, "0>0:100");
        x.pass(7);
        edges.due("end(0)", x.end(0), 1);
        edges.says(18, "group: number of the group");
        groupsOnly("end", CoflowSimulator::end);

        x = edges.says(18, "Returns its end;");
        x.pass(4);
        Checks.group(x, "0>0:250");
        x.pass(3);
        edges.due("end(0)", x.end(0), 7);
        x.undo();
        edges.due("end(0) behind undo", x.end(0), Edges.NONE);

        x = edges.says(18, "NONE if it is not done;");
        x.setRules(true, true);
        Checks.group(x, "0>0:200", 1, 1, 0);
        Checks.group(x, "0>0:101", 0, 1, 1);
        edges.due("end(0) of a waiting group", x.end(0), Edges.NONE);
        edges.due("end(1) of a rejected group", x.end(1), Edges.NONE);
        x.pass(2);
        edges.due("end(0) of an active group", x.end(0), Edges.NONE);
        x.pass(1);
        edges.due("end(0) of a done group", x.end(0), 3);
        edges.due("end(1) of a rejected group", x.end(1), Edges.NONE);
        edges.says(18, "BAD_INDEX if there is no such group.");
        groupsOnly("end", CoflowSimulator::end);
    }

    private void flowCount() {
        CoflowSimulator x = edges.says(19, "Returns the number of flows of a group.");
        Checks.group(x, "0>0:5");
        for (int i = 0; i < 16; i++) {
            x.flow(0, 0, 1);
        }
        x.addGroup(0, 1, 0);
        edges.due("flowCount(0)", x.flowCount(0), 1);
        edges.due("flowCount(1)", x.flowCount(1), 16);
        edges.says(19, "group: number of the group");
        groupsOnly("flowCount", CoflowSimulator::flowCount);

        x = edges.says(19, "Returns the number;");
        Checks.group(x, "0>0:5,1>1:500");
        edges.due("flowCount(0)", x.flowCount(0), 2);
        x.pass(1);
        edges.due("flowCount(0) with a done flow", x.flowCount(0), 2);
        x.pass(9);
        edges.due("flowCount(0) of a done group", x.flowCount(0), 2);
        edges.says(19, "BAD_INDEX if there is no such group.");
        groupsOnly("flowCount", CoflowSimulator::flowCount);
    }

    private void parts(String when, CoflowSimulator x, int group, int flow, int... want) {
        for (int what = 0; what < 5; what++) {
            edges.due("flowPart(" + group + ", " + flow + ", " + what + ") " + when, x.flowPart(group, flow, what), want[what]);
        }
    }

    private void flowPart() {
        CoflowSimulator x = edges.says(20, "Returns a property of a flow.");
        Checks.group(x, "7>6:500,2>3:40");
        parts("of a new flow", x, 0, 0, 7, 6, 500, 500, 0);
        parts("of a new flow", x, 0, 1, 2, 3, 40, 40, 0);
        edges.says(20, "group: number of the group");
        groupsOnly("flowPart", (y, group) -> y.flowPart(group, 0, 0));
        edges.says(20, "flow: number of the flow");
        for (int flow : new int[] {-1, 2, 15, 16, Integer.MIN_VALUE, Integer.MAX_VALUE}) {
            edges.refused("flowPart(0, " + flow + ", 0) of two flows", y -> Checks.group(y, "0>0:5,1>1:6"),
                    y -> y.flowPart(0, flow, 0), Edges.BAD_INDEX);
        }
        edges.due("flowPart(0, 1, 2) of two flows", x.flowPart(0, 1, 2), 40);

        x = edges.says(20, "what: 0 its sender, 1 its receiver, 2 its size, 3 its rest, 4 its rate in the latest tick (0 "
                + "if there was none since it was added)");
        x.pass(1);
        Checks.group(x, "7>6:150,2>3:40");
        parts("before a tick", x, 0, 0, 7, 6, 150, 150, 0);
        x.pass(1);
        parts("behind a tick", x, 0, 0, 7, 6, 150, 50, 100);
        Checks.group(x, "1>1:5", 1, 1, 0);
        parts("when it waits", x, 1, 0, 1, 1, 5, 5, 0);
        x.pass(1);
        parts("behind its last tick", x, 0, 0, 7, 6, 150, 0, 50);
        parts("behind the last tick of the group, done before", x, 0, 1, 2, 3, 40, 0, 0);
        parts("when it has waited", x, 1, 0, 1, 1, 5, 5, 0);
        x.pass(1);
        parts("behind a tick of others", x, 0, 0, 7, 6, 150, 0, 0);
        parts("behind its only tick", x, 1, 0, 1, 1, 5, 0, 5);
        x.pass(1);
        parts("behind a tick without groups", x, 1, 0, 1, 1, 5, 0, 0);
        edges.due("flowPart(0, 0, -1)", x.flowPart(0, 0, -1), Edges.BAD_VALUE);
        edges.due("flowPart(0, 0, 5)", x.flowPart(0, 0, 5), Edges.BAD_VALUE);

        x = edges.says(20, "Returns the property;");
        Checks.group(x, "0>7:1,7>0:100000");
        parts("of the least size", x, 0, 0, 0, 7, 1, 1, 0);
        parts("of the greatest size", x, 0, 1, 7, 0, 100000, 100000, 0);
        edges.says(20, "BAD_INDEX if there is no such group or flow;");
        groupsOnly("flowPart with a wrong property", (y, group) -> y.flowPart(group, 0, group == 0 || group == 2 ? 0 : 5));
        groupsOnly("flowPart with a wrong flow",
                (y, group) -> y.flowPart(group, group == 0 || group == 2 || group == 11 ? 0 : 99, 0));
        edges.refused("flowPart(0, 1, 5) of one flow", y -> Checks.group(y, "0>0:5"), y -> y.flowPart(0, 1, 5), Edges.BAD_INDEX);
        edges.says(20, "BAD_VALUE if what is out of range.");
        for (int what : new int[] {-1, 5, Integer.MIN_VALUE, Integer.MAX_VALUE}) {
            edges.refused("flowPart(0, 0, " + what + ")", y -> Checks.group(y, "0>0:5"), y -> y.flowPart(0, 0, what),
                    Edges.BAD_VALUE);
        }
    }

    private void rest() {
        CoflowSimulator x = edges.says(21, "Returns the sum of the rests of the flows of a group.");
        Checks.group(x, "0>0:250,1>1:70,2>2:1");
        edges.due("rest(0)", x.rest(0), 321);
        x.pass(1);
        edges.due("rest(0) behind a tick", x.rest(0), 150);
        edges.says(21, "group: number of the group");
        groupsOnly("rest", CoflowSimulator::rest);

        x = edges.says(21, "Returns the sum;");
        x.setRules(true, true);
        Checks.group(x, "0>0:1");
        for (int i = 0; i < 16; i++) {
            x.flow(i % 8, i % 8, 100000);
        }
        x.addGroup(0, 1, 1);
        edges.due("rest(0) of the least group", x.rest(0), 1);
        edges.due("rest(1) of the greatest group, which is rejected", x.rest(1), 1600000);
        x.pass(1);
        edges.due("rest(0) of a done group", x.rest(0), 0);
        edges.says(21, "BAD_INDEX if there is no such group.");
        groupsOnly("rest", CoflowSimulator::rest);
    }

    /** Sends so many units of a flow 1>1 in one tick. */
    private static void send(CoflowSimulator x, int units) {
        x.setCapacity(1, units);
        x.setCapacity(9, units);
        x.pass(1);
    }

    private void level() {
        CoflowSimulator x = edges.says(0, "The level of a group is the number of the thresholds 100, 1000, 10000 and "
                + "100000 that are not greater than what it has sent in all.");
        Checks.group(x, "1>1:100000,1>1:50");
        int[] units = {99, 1, 1, 898, 1, 1, 998, 1000, 1000, 1000, 1000, 1000, 1000, 1000, 1000, 1, 1};
        int sent = 0;
        edges.due("level(0) behind 0", x.level(0), 0);
        for (int many : units) {
            send(x, many);
            sent += many;
            edges.due("rest(0) behind " + sent, x.rest(0), 100050 - sent);
            edges.due("level(0) behind " + sent, x.level(0), sent < 100 ? 0 : sent < 1000 ? 1 : sent < 10000 ? 2 : 3);
        }
        for (int i = 0; i < 89; i++) {
            send(x, 1000);
        }
        send(x, 998);
        edges.due("rest(0) behind 99999", x.rest(0), 51);
        edges.due("level(0) behind 99999", x.level(0), 3);
        send(x, 1);
        edges.due("level(0) behind 100000", x.level(0), 4);
        send(x, 50);
        edges.due("state(0)", x.state(0), 2);
        edges.due("level(0) of a done group", x.level(0), 4);

        x = edges.says(22, "Returns the level of a group.");
        Checks.group(x, "0>0:500,1>1:500");
        edges.due("level(0)", x.level(0), 0);
        x.pass(1);
        edges.due("level(0) behind 200", x.level(0), 1);
        edges.says(22, "group: number of the group");
        groupsOnly("level", CoflowSimulator::level);
        x = edges.says(22, "Returns the level, 0 to 4;");
        for (int i = 0; i < 16; i++) {
            x.flow(i % 8, i % 8, 100000);
        }
        x.addGroup(0, 1, 0);
        edges.due("level(0) of a group that has sent nothing", x.level(0), 0);
        for (int many : new int[] {500, 500, 500, 500, 500}) {
            x.pass(many);
        }
        edges.due("level(0) of a group that has sent 1600000", x.level(0), 4);
        edges.due("state(0)", x.state(0), 2);
        edges.says(22, "BAD_INDEX if there is no such group.");
        groupsOnly("level", CoflowSimulator::level);
    }

    private void span(String flows, int capacity, int want) {
        CoflowSimulator x = edges.object();
        Checks.setAll(x, capacity);
        Checks.group(x, flows);
        edges.due("the span of " + flows + " with the capacity " + capacity, x.nextSpan(0), want);
        edges.due("the lone span of " + flows + " with the capacity " + capacity, x.loneSpan(0), want);
    }

    private void leastSpan() {
        edges.says(0, "Each of the 16 ports has an available capacity. The span of a group with given available "
                + "capacities is the least positive int G such that for each port the sum of the rates r / G, rounded up, ");
        span("0>0:1", 1, 1);
        span("0>0:1", 1000, 1);
        span("0>0:100", 100, 1);
        span("0>0:101", 100, 2);
        span("0>0:200", 100, 2);
        span("0>0:201", 100, 3);
        span("0>0:100000", 1, 100000);
        span("0>0:100000", 2, 50000);
        span("0>0:99999", 2, 50000);
        span("0>0:100000", 1000, 100);
        span("0>0:50,0>1:50", 100, 1);
        span("0>0:50,0>1:51", 100, 2);
        span("0>0:50,1>0:51", 100, 2);
        span("0>0:51,0>1:1", 10, 6);
        span("0>0:5,0>1:5,0>2:5", 4, 5);
        span("0>0:5,0>1:5,0>2:6", 3, 6);
        span("0>0:5,0>1:5,0>2:6", 4, 5);
        span("0>0:5,0>1:5,0>2:6", 5, 5);
        span("0>0:5,0>1:5,0>2:6", 6, 3);
        span("0>0:50,1>1:300,2>2:10", 100, 3);
        span("0>0:5,0>0:1", 2, 5);
        span("0>0:7,0>0:9,0>0:7", 3, 9);
        span("0>1:250,0>2:150", 100, 5);
        span("0>1:250,0>2:151", 100, 5);
        CoflowSimulator x = edges.object();
        x.setCapacity(0, 1);
        Checks.group(x, "0>0:1,1>1:100");
        edges.due("the span at a port without a unit to spare, beside greater rests", x.loneSpan(0), 1);
        Checks.group(x, "0>0:2,1>1:100");
        edges.due("the span of two units there", x.loneSpan(1), 2);
        x = edges.object();
        x.setCapacity(0, 4);
        x.setCapacity(15, 4);
        Checks.group(x, "0>1:5,0>2:5,0>3:5");
        edges.due("the span at a narrow sender", x.loneSpan(0), 5);
        Checks.group(x, "1>7:5,2>7:5,3>7:5");
        edges.due("the span at a narrow receiver", x.loneSpan(1), 5);
    }

    private void spanOfWhatIsNotDone() {
        CoflowSimulator x = edges.says(0, "over all its flows that use this port and are not done, where r is the rest of "
                + "the flow, is at most the available capacity of the port;");
        Checks.group(x, "0>0:10,0>1:500,1>2:10");
        x.pass(1);
        edges.due("the rest", x.rest(0), 410);
        x.setCapacity(0, 41);
        x.setCapacity(8, 0);
        x.setCapacity(1, 0);
        edges.due("the span of a rest of 410 with the capacity 41", x.loneSpan(0), 10);
        x.setCapacity(0, 40);
        edges.due("the span of a rest of 410 with the capacity 40", x.loneSpan(0), 11);
        x.setCapacity(0, 1);
        edges.due("the span of a rest of 410 with the capacity 1", x.loneSpan(0), 410);
        Checks.group(x, "2>3:90");
        x.setCapacity(2, 80);
        x.setCapacity(11, 70);
        edges.due("by the receiver", x.loneSpan(1), 2);
        x.setCapacity(11, 90);
        edges.due("by the sender", x.loneSpan(1), 2);
        x.setCapacity(2, 90);
        edges.due("by both", x.loneSpan(1), 1);
    }

    private void noSpan() {
        CoflowSimulator x = edges.says(0, "it is NONE if there is no such G (because a port has less available capacity "
                + "than flows that are not done).");
        span("0>0:1", 0, Edges.NONE);
        span("0>0:1,0>1:1", 1, Edges.NONE);
        span("0>0:1,0>1:1", 2, 1);
        span("0>0:1,1>0:1", 1, Edges.NONE);
        span("0>0:7,1>0:9", 2, 9);
        String sixteen = "0>0:1,".repeat(15) + "0>0:1";
        span(sixteen, 15, Edges.NONE);
        span(sixteen, 16, 1);
        span("0>0:2,".repeat(15) + "0>0:1", 16, 2);
        Checks.group(x, "0>0:1,0>1:300");
        x.setCapacity(0, 1);
        edges.due("two flows at a port of capacity 1", x.loneSpan(0), Edges.NONE);
        x.setCapacity(0, 2);
        edges.due("two flows at a port of capacity 2", x.loneSpan(0), 300);
        x.pass(1);
        x.setCapacity(0, 1);
        edges.due("one flow is done", x.flowPart(0, 0, 3), 0);
        edges.due("one flow at a port of capacity 1", x.loneSpan(0), 299);
        x.setCapacity(9, 0);
        edges.due("a receiver without capacity", x.loneSpan(0), Edges.NONE);
    }

    private void loneSpan() {
        CoflowSimulator x = edges.says(0, "The lone span of a group is its span with the capacities of all ports.");
        Checks.group(x, "0>0:100");
        Checks.group(x, "0>0:200");
        edges.due("loneSpan(0)", x.loneSpan(0), 1);
        edges.due("loneSpan(1), whatever the other leaves", x.loneSpan(1), 2);
        edges.due("nextSpan(1), in what the other leaves", x.nextSpan(1), Edges.NONE);
        x.setCapacity(0, 50);
        edges.due("loneSpan(1) with another capacity", x.loneSpan(1), 4);

        x = edges.says(23, "Returns the lone span of a group.");
        Checks.group(x, "0>0:300");
        edges.due("loneSpan(0)", x.loneSpan(0), 3);
        x.pass(1);
        edges.due("loneSpan(0) behind a tick", x.loneSpan(0), 2);
        edges.says(23, "group: number of the group");
        groupsOnly("loneSpan", CoflowSimulator::loneSpan);

        x = edges.says(23, "Returns the lone span;");
        x.setRules(true, true);
        Checks.group(x, "0>0:101", 1000, 1, 0);
        Checks.group(x, "0>0:301", 0, 1, 2);
        edges.due("loneSpan(0) of a waiting group", x.loneSpan(0), 2);
        edges.due("loneSpan(1) of a rejected group", x.loneSpan(1), 4);

        x = edges.says(23, "NONE if there is none, or the group is done;");
        Checks.group(x, "0>0:100");
        Checks.group(x, "1>1:200");
        x.pass(1);
        edges.due("loneSpan(0) of a done group", x.loneSpan(0), Edges.NONE);
        edges.due("loneSpan(1) of an active group", x.loneSpan(1), 1);
        x.setCapacity(9, 0);
        edges.due("loneSpan(1) without capacity", x.loneSpan(1), Edges.NONE);
        edges.says(23, "BAD_INDEX if there is no such group.");
        groupsOnly("loneSpan", CoflowSimulator::loneSpan);
    }
}
