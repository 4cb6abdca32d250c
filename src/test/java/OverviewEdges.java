/** What the document says first: what the class is, and for how many calls an object is used. */
final class OverviewEdges {
    private static final int MOST_CALLS = 512;
    private final Edges edges;

    OverviewEdges(Edges edges) {
        this.edges = edges;
    }

    void run() {
        doneOnlyWhenAllAre();
        orderedByPolicy();
        justRates();
        whatIsLeft();
        whatItHas();
        latestOf512();
        latestTimes();
        dearCalls();
    }

    private CoflowSimulator says(String words) {
        return edges.says(Edges.WHAT_IT_IS, words);
    }

    private void doneOnlyWhenAllAre() {
        CoflowSimulator x = says("A simulator of groups of network flows that are done only when all their flows are done "
                + "(coflows).");
        Checks.group(x, "0>0:100,1>1:300");
        x.setCapacity(1, 1);
        edges.due("pass(1)", x.pass(1), 1);
        edges.due("the rest of the flow 0", x.flowPart(0, 0, 3), 0);
        edges.due("state(0) with a flow that is not done", x.state(0), 1);
        edges.due("end(0)", x.end(0), Edges.NONE);
        x.setCapacity(1, 1000);
        x.setCapacity(9, 1000);
        edges.due("pass(1)", x.pass(1), 0);
        edges.due("state(0) when all flows are done", x.state(0), 2);
        edges.due("end(0)", x.end(0), 2);
    }

    private void orderedByPolicy() {
        CoflowSimulator x = says("In each tick the groups are put in an order by a policy;");
        Checks.group(x, "0>0:300");
        Checks.group(x, "0>0:100,1>1:100,2>2:200");
        // the second group has the lesser lone span, but the greater sum of rests and more flows
        int[] placesOfFirst = {1, 0, 0, 0, 0, 1};
        for (int policy = 0; policy < placesOfFirst.length; policy++) {
            x.setPolicy(policy);
            edges.due("place(0) with policy " + policy, x.place(0), placesOfFirst[policy]);
            edges.due("place(1) with policy " + policy, x.place(1), 1 - placesOfFirst[policy]);
        }
    }

    private void justRates() {
        CoflowSimulator x = says("each one in turn gets just those rates with which all its flows end together as soon as "
                + "its slowest port allows,");
        x.setRules(false, false);
        Checks.group(x, "0>1:250,0>2:150,3>4:5");
        edges.due("nextRate(0, 0)", x.nextRate(0, 0), 50);
        edges.due("nextRate(0, 1)", x.nextRate(0, 1), 30);
        edges.due("nextRate(0, 2)", x.nextRate(0, 2), 1);
        edges.due("spare(3) of a port that is not the slowest", x.spare(3), 99);
        // the slowest port, sender 0, would allow four ticks if rates were no whole numbers, but 63 + 38 is above 100
        edges.due("pass(4)", x.pass(4), 1);
        for (int flow = 0; flow < 3; flow++) {
            edges.due("the rest of flow " + flow + " is one tick's rate", x.flowPart(0, flow, 3), x.flowPart(0, flow, 4));
        }
        edges.due("pass(1)", x.pass(1), 0);
        edges.due("end(0)", x.end(0), 5);
    }

    private void whatIsLeft() {
        CoflowSimulator x = says("and what is left is given to other flows.");
        Checks.group(x, "0>0:150");
        Checks.group(x, "0>1:500");
        // 75 are the just rate of the first group; its own flow comes before those of others
        edges.due("nextSpan(0)", x.nextSpan(0), 2);
        edges.due("nextRate(0, 0)", x.nextRate(0, 0), 75);
        edges.due("nextRate(1, 0), just and all that is left", x.nextRate(1, 0), 25);
        Checks.group(x, "1>0:500");
        edges.due("nextRate(2, 0), from another sender", x.nextRate(2, 0), 25);
        x.setRules(false, false);
        edges.due("nextRate(1, 0) without sharing", x.nextRate(1, 0), 25);
        edges.due("nextRate(2, 0) without sharing", x.nextRate(2, 0), 25);
        edges.due("spare(1)", x.spare(1), 75);
    }

    private void whatItHas() {
        CoflowSimulator x = says("The class has deadlines with admission, preemption by arrivals, comparisons of policies "
                + "and of all orders, bounds, groups given as texts, a log of events, and undo.");
        x.setRules(true, true);
        edges.due("a group given as a text, and admitted", Checks.group(x, "0>0:1000", 0, 1, 10), 0);
        Checks.group(x, "0>0:1", 0, 1, 10);
        edges.due("state(1), not admitted", x.state(1), 3);
        edges.due("the log of it", x.event(0, 0), 3);
        x.setRules(true, false);
        x.pass(1);
        Checks.group(x, "0>0:100");
        x.pass(1);
        edges.due("a preemption by the arrival of group 2", x.preemptions(), 1);
        Checks.group(x, "0>0:200");
        edges.due("bound()", x.bound(), 11);
        // group 2 took 1 tick; then 2 for group 3 and 13 for group 0, or 11 for each
        edges.due("total(0)", x.total(0), 16);
        edges.due("total(1)", x.total(1), 23);
        edges.due("bestPolicy()", x.bestPolicy(), 0);
        edges.due("bestOrder()", x.bestOrder(), 16);
        edges.due("bestOrderAt(0)", x.bestOrderAt(0), 3);
        x.undo();
        edges.due("groupCount() behind undo", x.groupCount(), 3);
    }

    private void latestOf512() {
        says("An object is used for at most 512 calls after it has been made; what later calls answer is free.");
        CoflowSimulator x = new CoflowSimulator();
        for (int i = 0; i < MOST_CALLS - 1; i++) {
            edges.due("pass(500)", x.pass(500), 0);
        }
        edges.due("time(), the call 512", x.time(), 500 * (MOST_CALLS - 1));
        x = new CoflowSimulator();
        for (int i = 0; i < MOST_CALLS; i++) {
            edges.due("type(0), call " + i, x.type(0), i < 120 ? i + 1 : Edges.FULL);
        }
        x = new CoflowSimulator();
        for (int i = 0; i < MOST_CALLS; i++) {
            edges.due("setCapacity(0, i), call " + i, x.setCapacity(0, i), i == 0 ? 100 : i - 1);
        }
    }

    /** The greatest times that 512 calls can bring still give the order, the deadline and the end their due. */
    private void latestTimes() {
        says("An object is used for at most 512 calls after it has been made;");
        CoflowSimulator x = new CoflowSimulator();
        x.setRules(true, true);
        for (int i = 0; i < 490; i++) {
            x.pass(500);
        }
        int now = 490 * 500;
        x.flow(0, 0, 100);
        x.addGroup(1000, 1, 10000);
        x.flow(0, 0, 200);
        x.addGroup(1000, 1, 0);
        x.setPolicy(4);
        x.pass(500);
        edges.due("pass(500)", x.pass(500), 2);
        edges.due("arrival(0)", x.arrival(0), now + 1000);
        edges.due("place(0), with a deadline", x.place(0), 0);
        x.setRules(true, false);
        x.flow(0, 0, 1);
        x.addGroup(0, 1, 0);
        edges.due("place(2), of equal level and arrival", x.place(2), 2);
        // having sent 100 units, group 1 has a higher level than group 2
        edges.due("outlook(1)", x.outlook(1), now + 1004);
        edges.due("outlook(2)", x.outlook(2), now + 1003);
        edges.due("total(4)", x.total(4), 1 + 4 + 3);
    }

    /** The dearest calls, on the most groups, flows and units. */
    private void dearCalls() {
        says("An object is used for at most 512 calls after it has been made;");
        CoflowSimulator x = new CoflowSimulator();
        Checks.setAll(x, 10);
        for (int group = 0; group < 12; group++) {
            for (int flow = 0; flow < 16; flow++) {
                x.flow(flow % 8, (flow + group) % 8, 100000);
            }
            x.addGroup(0, 1, 0);
        }
        edges.due("bound()", x.bound(), 240000);
        edges.due("outlook(0)", x.outlook(0), Edges.NONE);
        int calls = 16 + 12 * 17 + 2;
        int ticks = 0;
        // two flows at each port, with 5 units a tick each: a group ends every 20000 ticks
        for (; calls + 3 <= MOST_CALLS; calls += 2) {
            ticks += 500;
            edges.due("pass(500)", x.pass(500), 12 - ticks / 20000);
            edges.due("bestPolicy()", x.bestPolicy(), Edges.NONE);
        }
        edges.due("moved(7)", x.moved(7), 10 * ticks);
    }
}
