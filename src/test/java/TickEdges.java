/** The steps of a tick, and the next tick: promises 24 to 27. */
final class TickEdges {
    private final Edges edges;

    TickEdges(Edges edges) {
        this.edges = edges;
    }

    void run() {
        activeOnly();
        equalOnes();
        bySpan();
        byArrival();
        byRest();
        byFlows();
        byLevel();
        byWeightedSpan();
        byDeadline();
        capacitiesFirst();
        justRates();
        noRates();
        untilTheDeadline();
        spareSharing();
        sending();
        preemption();
        preemptionOverIdleTicks();
        place();
        nextSpan();
        nextRate();
        spare();
    }

    private void order(String what, CoflowSimulator x, int... groups) {
        for (int i = 0; i < groups.length; i++) {
            edges.due("place(" + groups[i] + ") " + what, x.place(groups[i]), i);
        }
    }

    private void activeOnly() {
        CoflowSimulator x = edges.says(0, "In each tick the following is done: 1: The groups that are active are put in "
                + "an order by the policy;");
        x.setRules(true, true);
        Checks.group(x, "0>0:100");
        Checks.group(x, "0>0:101", 0, 1, 1);
        Checks.group(x, "1>1:500");
        Checks.group(x, "2>2:400", 2, 1, 0);
        order("at first", x, 0, 2);
        edges.due("place(1) of a rejected group", x.place(1), Edges.NONE);
        edges.due("place(3) of a waiting group", x.place(3), Edges.NONE);
        x.pass(1);
        order("when the first is done", x, 2);
        edges.due("place(0) of a done group", x.place(0), Edges.NONE);
        edges.due("place(3) of a waiting group", x.place(3), Edges.NONE);
        x.pass(1);
        order("when another arrives", x, 2, 3);
        x.setPolicy(2);
        order("by the policy", x, 2, 3);
        x.setPolicy(1);
        order("by another policy", x, 2, 3);
    }

    private void equalOnes() {
        CoflowSimulator x = edges.says(0, "of equal ones the one with the lower number comes first:");
        for (int i = 0; i < 12; i++) {
            x.flow(i % 8, i % 8, 200);
            x.addGroup(0, 3, 0);
        }
        for (int policy = 0; policy < 6; policy++) {
            x.setPolicy(policy);
            order("by policy " + policy, x, 0, 1, 2, 3, 4, 5, 6, 7, 8, 9, 10, 11);
        }
        CoflowSimulator y = edges.object();
        y.setRules(true, true);
        for (int i = 0; i < 8; i++) {
            y.flow(i, i, 100 * (9 - i));
            y.addGroup(0, 1, 9);
        }
        order("by equal deadlines", y, 0, 1, 2, 3, 4, 5, 6, 7);
    }

    private void bySpan() {
        CoflowSimulator x = edges.says(0, "policy 0: by their lone spans, ascending, NONE last;");
        Checks.group(x, "0>0:101");
        Checks.group(x, "1>1:100");
        order("of spans 2 and 1", x, 1, 0);
        Checks.group(x, "2>2:200");
        order("of spans 2, 1 and 2", x, 1, 0, 2);
        Checks.group(x, "3>3:1");
        Checks.group(x, "4>4:100000");
        x.setCapacity(11, 0);
        order("with a span of NONE", x, 1, 0, 2, 4, 3);
        x.setCapacity(1, 0);
        order("with two spans of NONE", x, 0, 2, 4, 1, 3);
        x.setCapacity(4, 1);
        order("with the span 100000", x, 0, 2, 4, 1, 3);
        Checks.setAll(x, 0);
        order("with spans of NONE alone", x, 0, 1, 2, 3, 4);
    }

    private void byArrival() {
        CoflowSimulator x = edges.says(0, "1: by their arrival times, ascending;");
        x.setPolicy(1);
        Checks.group(x, "0>0:900", 3, 1, 0);
        Checks.group(x, "1>1:900", 2, 1, 0);
        Checks.group(x, "2>2:900", 3, 1, 0);
        Checks.group(x, "3>3:900", 0, 1, 0);
        order("at the time 0", x, 3);
        x.pass(2);
        order("at the time 2", x, 3, 1);
        x.pass(1);
        order("at the time 3", x, 3, 1, 0, 2);
    }

    private void byRest() {
        CoflowSimulator x = edges.says(0, "2: by the sums of their rests, ascending;");
        x.setPolicy(2);
        Checks.group(x, "0>0:300");
        Checks.group(x, "1>1:150,2>2:149");
        order("of 300 and 299", x, 1, 0);
        Checks.group(x, "3>3:150,4>4:150");
        order("of 300, 299 and 300", x, 1, 0, 2);
        x.setCapacity(1, 0);
        x.setCapacity(2, 0);
        x.setCapacity(3, 0);
        x.setCapacity(4, 0);
        x.setCapacity(0, 1);
        x.pass(1);
        order("of 299, 299 and 300", x, 0, 1, 2);
    }

    private void byFlows() {
        CoflowSimulator x = edges.says(0, "3: by the number of their flows that are not done, ascending;");
        x.setPolicy(3);
        Checks.group(x, "0>0:100,1>1:900,2>2:900");
        Checks.group(x, "3>3:900,4>4:900");
        Checks.group(x, "5>5:900");
        order("of 3, 2 and 1 flows", x, 2, 1, 0);
        x.pass(1);
        order("of 2, 2 and 1 flows", x, 2, 0, 1);
    }

    private void byLevel() {
        CoflowSimulator x = edges.says(0, "4: by their levels, ascending, and for equal levels by their arrival times;");
        x.setPolicy(4);
        Checks.group(x, "0>0:5000", 1, 1, 0);
        Checks.group(x, "1>1:5000", 0, 1, 0);
        Checks.group(x, "2>2:5000", 1, 1, 0);
        Checks.setAll(x, 0);
        x.pass(1);
        order("of level 0 each, by arrival, then by number", x, 1, 0, 2);
        x.setCapacity(1, 99);
        x.setCapacity(9, 100);
        x.pass(1);
        order("with 99 sent", x, 1, 0, 2);
        x.pass(1);
        order("with 198 sent", x, 0, 2, 1);
        x.setCapacity(0, 100);
        x.setCapacity(8, 100);
        x.pass(1);
        order("of levels 1, 1 and 0", x, 2, 1, 0);
    }

    private void byWeightedSpan() {
        CoflowSimulator x = edges.says(0, "5: by (lone span) / (weight), compared exactly as fractions, ascending, NONE "
                + "last.");
        x.setPolicy(5);
        Checks.group(x, "0>0:100", 0, 3, 0);
        Checks.group(x, "1>1:3300", 0, 100, 0);
        order("of 1 / 3 and 33 / 100", x, 1, 0);
        Checks.group(x, "2>2:3400", 0, 100, 0);
        order("of 1 / 3, 33 / 100 and 34 / 100", x, 1, 0, 2);
        Checks.group(x, "3>3:3000", 0, 90, 0);
        order("with 30 / 90", x, 1, 0, 3, 2);
        Checks.group(x, "4>4:9900", 0, 100, 0);
        Checks.group(x, "5>5:9800", 0, 99, 0);
        order("with 99 / 100 and 98 / 99", x, 1, 0, 3, 2, 5, 4);
        x.setCapacity(1, 0);
        order("with NONE / 100", x, 0, 3, 2, 5, 4, 1);
        x.setCapacity(0, 0);
        order("with NONE / 3 and NONE / 100", x, 3, 2, 5, 4, 0, 1);
        CoflowSimulator y = edges.object();
        y.setPolicy(5);
        Checks.setAll(y, 1);
        Checks.group(y, "0>0:100000", 0, 100, 0);
        Checks.group(y, "1>1:99000", 0, 99, 0);
        Checks.group(y, "2>2:98999", 0, 99, 0);
        order("of 1000, 1000 and less", y, 2, 0, 1);
    }

    private void byDeadline() {
        CoflowSimulator x = edges.says(0, "With deadlines on (off at first), the groups that have a deadline come first, "
                + "by the time at which it ends (arrival time plus deadline), ascending, before all other groups, which "
                + "are in the order of the policy.");
        Checks.group(x, "0>0:1000");
        Checks.group(x, "1>1:900", 0, 1, 10000);
        Checks.group(x, "2>2:800", 0, 1, 9999);
        Checks.group(x, "3>3:700", 5, 1, 9994);
        Checks.group(x, "4>4:600");
        Checks.group(x, "5>5:500", 5, 1, 9993);
        Checks.setAll(x, 0);
        x.pass(5);
        Checks.setAll(x, 100);
        order("with deadlines off", x, 5, 4, 3, 2, 1, 0);
        x.setRules(true, true);
        order("with deadlines on", x, 5, 2, 3, 1, 4, 0);
        x.setPolicy(1);
        order("with deadlines on, by policy 1", x, 5, 2, 3, 1, 0, 4);
        x.setRules(true, false);
        order("with deadlines off again", x, 0, 1, 2, 4, 3, 5);
        CoflowSimulator y = edges.object();
        Checks.group(y, "0>0:1");
        Checks.group(y, "1>1:900", 0, 1, 1);
        y.setCapacity(0, 0);
        y.pass(5);
        y.setCapacity(0, 100);
        y.setRules(true, true);
        order("when the deadline is over", y, 1, 0);
    }

    private void capacitiesFirst() {
        CoflowSimulator x = edges.says(0, "2: The available capacities are the capacities.");
        Checks.group(x, "0>0:1000");
        x.setRules(false, false);
        edges.due("nextSpan(0)", x.nextSpan(0), 10);
        x.pass(1);
        edges.due("nextSpan(0) in the next tick", x.nextSpan(0), 9);
        edges.due("spare(0)", x.spare(0), 0);
        x.setCapacity(0, 1000);
        x.setCapacity(8, 1000);
        edges.due("nextSpan(0) with other capacities", x.nextSpan(0), 1);
        edges.due("spare(0)", x.spare(0), 100);
    }

    private void justRates() {
        CoflowSimulator x = edges.says(0, "These rates are the just rates of the group.");
        x.setRules(false, false);
        Checks.group(x, "0>1:250,0>2:151");
        edges.due("250 / 5", x.nextRate(0, 0), 50);
        edges.due("151 / 5, rounded up", x.nextRate(0, 1), 31);

        x = edges.says(0, "For each group in this order, if its span with the available capacities is not NONE, its flows "
                + "that are not done get the just rates, and the available capacities decrease by them;");
        x.setRules(false, false);
        x.setPolicy(1);
        Checks.group(x, "0>0:99");
        Checks.group(x, "0>1:500,1>1:500");
        Checks.group(x, "2>1:1");
        edges.due("nextRate(0, 0)", x.nextRate(0, 0), 99);
        edges.due("nextSpan(1) with 1 left", x.nextSpan(1), 500);
        edges.due("nextRate(1, 0)", x.nextRate(1, 0), 1);
        edges.due("nextRate(1, 1)", x.nextRate(1, 1), 1);
        edges.due("nextSpan(2)", x.nextSpan(2), 1);
        edges.due("spare(0)", x.spare(0), 0);
        edges.due("spare(1)", x.spare(1), 99);
        edges.due("spare(8)", x.spare(8), 1);
        edges.due("spare(9)", x.spare(9), 97);
        x.setPolicy(3);
        order("by flows", x, 0, 2, 1);
        x.setCapacity(1, 0);
        edges.due("nextSpan(1) without capacity", x.nextSpan(1), Edges.NONE);
        x.setCapacity(9, 2);
        x.setCapacity(1, 1);
        edges.due("nextSpan(1) with one of two left", x.nextSpan(1), Edges.NONE);
        x.setCapacity(9, 3);
        edges.due("nextSpan(1) with two left", x.nextSpan(1), 500);
    }

    private void noRates() {
        CoflowSimulator x = edges.says(0, "otherwise its flows get the rate 0.");
        x.setRules(false, false);
        x.setPolicy(1);
        Checks.group(x, "0>0:100");
        Checks.group(x, "0>1:500,1>2:500");
        Checks.group(x, "1>3:70");
        edges.due("nextSpan(1) with nothing left", x.nextSpan(1), Edges.NONE);
        edges.due("nextRate(1, 0)", x.nextRate(1, 0), 0);
        edges.due("nextRate(1, 1), though its ports are free", x.nextRate(1, 1), 0);
        edges.due("nextRate(2, 0) of the next group", x.nextRate(2, 0), 70);
        edges.due("spare(1)", x.spare(1), 30);
        x.pass(1);
        edges.due("rest(1)", x.rest(1), 1000);
        x.setCapacity(0, 0);
        x.setRules(false, true);
        CoflowSimulator y = edges.object();
        Checks.group(y, "0>0:100", 0, 1, 50);
        y.setRules(false, true);
        y.setCapacity(0, 0);
        edges.due("nextRate(0, 0) of a group with a deadline, without capacity", y.nextRate(0, 0), 0);
    }

    /** The rate of 300 units with the capacity 100, so with the span 3, if the deadline ends in so many ticks. */
    private int rateBefore(int ticks) {
        CoflowSimulator x = edges.object();
        Checks.group(x, "0>0:300", 0, 1, 20);
        Checks.setAll(x, 0);
        if (ticks < 20) {
            x.pass(20 - ticks);
        }
        Checks.setAll(x, 100);
        x.setRules(false, true);
        edges.due("nextSpan(0) with " + ticks + " ticks left", x.nextSpan(0), 3);
        edges.due("spare(0) with " + ticks + " ticks left", x.spare(0), 100 - x.nextRate(0, 0));
        edges.due("spare(8) with " + ticks + " ticks left", x.spare(8), 100 - x.nextRate(0, 0));
        return x.nextRate(0, 0);
    }

    private void untilTheDeadline() {
        edges.says(0, "But with deadlines on, for a group that has a deadline, let G be the span, and D the time at which "
                + "the deadline ends minus the time; if D is greater than G, the flows get r / D, rounded up, instead of "
                + "the just rates, and the available capacities decrease by these.");
        int[][] rates = {{20, 15}, {7, 43}, {5, 60}, {4, 75}, {3, 100}, {2, 100}, {1, 100}, {0, 100}, {-1, 100}, {-50, 100}};
        for (int[] pair : rates) {
            edges.due("the rate with " + pair[0] + " ticks left", rateBefore(pair[0]), pair[1]);
        }
        CoflowSimulator x = edges.object();
        x.setRules(false, true);
        Checks.group(x, "0>0:1,0>1:100000", 0, 1, 10000);
        Checks.group(x, "0>0:90");
        edges.due("nextRate(0, 0) of a unit", x.nextRate(0, 0), 1);
        edges.due("nextRate(0, 1)", x.nextRate(0, 1), 10);
        edges.due("nextSpan(1) in what is left", x.nextSpan(1), 2);
        edges.due("nextRate(1, 0) without a deadline", x.nextRate(1, 0), 45);
        x.setRules(false, false);
        edges.due("nextRate(1, 0) first, with deadlines off", x.nextRate(1, 0), 90);
        edges.due("nextRate(0, 1), with deadlines off", x.nextRate(0, 1), 9);
        CoflowSimulator y = edges.object();
        y.setRules(false, true);
        Checks.group(y, "0>0:300", 0, 1, 5);
        edges.due("pass(4)", y.pass(4), 1);
        edges.due("the rest one tick before the end", y.rest(0), 60);
        edges.due("pass(1)", y.pass(1), 0);
        Checks.group(y, "0>0:300", 2, 1, 10);
        y.pass(2);
        edges.due("nextRate(1, 0) at an arrival later than the beginning", y.nextRate(1, 0), 30);
        y.pass(4);
        edges.due("nextRate(1, 0) four ticks later", y.nextRate(1, 0), 30);
        edges.due("pass(5)", y.pass(5), 1);
        edges.due("pass(1)", y.pass(1), 0);
        edges.due("end(1)", y.end(1), 17);
    }

    private void spareSharing() {
        CoflowSimulator x = edges.says(0, "3: If spare sharing is on (on at first), for each group in this order, and "
                + "each of its flows that is not done, in ascending order, the rate increases by the least of the "
                + "available capacity of its sender, that of its receiver, and its rest minus its rate;");
        x.setPolicy(1);
        Checks.group(x, "0>0:50,1>1:200");
        edges.due("25, and its rest minus its rate", x.nextRate(0, 0), 50);
        x.setRules(false, false);
        edges.due("25, without sharing", x.nextRate(0, 0), 25);
        x.setRules(true, false);
        x.setCapacity(0, 49);
        edges.due("25, and what its sender has", x.nextRate(0, 0), 49);
        x.setCapacity(8, 48);
        edges.due("25, and what its receiver has", x.nextRate(0, 0), 48);
        x.setCapacity(8, 100);
        x.setCapacity(0, 100);
        Checks.group(x, "0>2:70,0>3:70");
        edges.due("25, and what the just rates of both leave", x.nextRate(0, 0), 30);
        edges.due("nothing is left for the second group", x.nextRate(1, 0), 35);
        edges.due("nothing is left for the second group", x.nextRate(1, 1), 35);

        CoflowSimulator y = edges.object();
        Checks.group(y, "0>0:300,1>1:100,1>2:100,2>2:900");
        edges.due("flow 0", y.nextRate(0, 0), 100);
        edges.due("flow 1 before flow 2", y.nextRate(0, 1), 90);
        edges.due("flow 2", y.nextRate(0, 2), 10);
        edges.due("flow 3", y.nextRate(0, 3), 90);

        CoflowSimulator z = edges.says(0, "both available capacities decrease by the same.");
        Checks.group(z, "0>0:50,1>1:200");
        edges.due("spare(0)", z.spare(0), 50);
        edges.due("spare(8)", z.spare(8), 50);
        edges.due("spare(1)", z.spare(1), 0);
        edges.due("spare(9)", z.spare(9), 0);
        z.setRules(false, false);
        edges.due("spare(0) without sharing", z.spare(0), 75);
        edges.due("spare(8) without sharing", z.spare(8), 75);
    }

    private void sending() {
        CoflowSimulator x = edges.says(0, "4: Each flow sends its rate: its rest decreases by it.");
        Checks.group(x, "0>0:150,1>1:40");
        int rate = x.nextRate(0, 0);
        x.pass(1);
        edges.due("the rest of flow 0", x.flowPart(0, 0, 3), 150 - rate);
        edges.due("the rate of flow 0", x.flowPart(0, 0, 4), rate);
        edges.due("the rest of flow 1", x.flowPart(0, 1, 3), 0);

        x = edges.says(0, "The time increases by 1.");
        x.pass(1);
        edges.due("time() behind a tick without groups", x.time(), 1);
        Checks.group(x, "0>0:150");
        x.pass(1);
        edges.due("time() behind a tick with a group", x.time(), 2);

        x = edges.says(0, "Then the groups whose flows are all done now are done, in ascending order.");
        Checks.group(x, "0>0:100");
        Checks.group(x, "1>1:99");
        Checks.group(x, "2>2:101");
        Checks.group(x, "3>3:1");
        x.setPolicy(2);
        order("by the rests", x, 3, 1, 0, 2);
        x.pass(1);
        edges.due("eventCount()", x.eventCount(), 3);
        edges.due("the first event", x.event(2, 1), 0);
        edges.due("the second event", x.event(1, 1), 1);
        edges.due("the third event", x.event(0, 1), 3);
        edges.due("state(2)", x.state(2), 1);
        edges.due("end(3)", x.end(3), 1);
    }

    private void preemption() {
        CoflowSimulator x = edges.says(0, "A preemption happens in a tick if the first group of the order is not the "
                + "first group of the order of the tick before, and that group is still active (before step 2).");
        Checks.group(x, "0>0:700");
        Checks.group(x, "0>1:701");
        x.pass(1);
        edges.due("no preemption in the first tick", x.preemptions(), 0);
        Checks.group(x, "0>0:601");
        x.pass(1);
        edges.due("a group behind the first one", x.preemptions(), 0);
        Checks.group(x, "0>0:200", 1, 1, 0);
        x.pass(1);
        edges.due("a group that waits", x.preemptions(), 0);
        x.pass(1);
        edges.due("an arrival in front of the first one", x.preemptions(), 1);
        edges.due("the group that was first", x.event(0, 1), 0);
        edges.due("the time", x.event(0, 2), 3);
        x.pass(1);
        edges.due("end(3)", x.end(3), 5);
        edges.due("the new first one stays first", x.preemptions(), 1);
        x.pass(1);
        edges.due("the first one before is done", x.preemptions(), 1);
        edges.due("place(0)", x.place(0), 0);
        x.setPolicy(3);
        x.setCapacity(0, 0);
        x.pass(1);
        edges.due("the same first one by another policy", x.preemptions(), 1);
        x.setCapacity(0, 100);
        x.setPolicy(0);
        x.setCapacity(8, 0);
        x.pass(1);
        edges.due("another first one, by a capacity", x.preemptions(), 2);
        edges.due("the group that was first", x.event(0, 1), 0);
    }

    private void preemptionOverIdleTicks() {
        CoflowSimulator x = edges.says(0, "Ticks in which no group is active have no order, and are skipped over in this "
                + "comparison; ");
        Checks.group(x, "0>0:100");
        x.pass(3);
        Checks.group(x, "1>1:300");
        x.pass(1);
        edges.due("the first one before the idle ticks is done", x.preemptions(), 0);
        Checks.group(x, "2>2:100");
        x.pass(1);
        edges.due("a preemption behind them", x.preemptions(), 1);
        edges.due("the group that was first", x.event(1, 1), 1);
        edges.due("the time", x.event(1, 2), 4);
        CoflowSimulator idle = edges.object();
        idle.pass(5);
        Checks.group(idle, "0>0:300");
        idle.pass(1);
        edges.due("idle ticks at the beginning", idle.preemptions(), 0);
        CoflowSimulator back = edges.object();
        Checks.group(back, "0>0:300");
        back.pass(1);
        back.undo();
        back.undo();
        back.undo();
        back.pass(1);
        Checks.group(back, "0>0:300");
        Checks.group(back, "0>0:100");
        back.pass(1);
        edges.due("idle ticks behind a group that was taken back", back.preemptions(), 0);

        CoflowSimulator y = edges.says(0, "a rejected group is not active.");
        y.setRules(true, true);
        Checks.group(y, "0>0:500");
        y.pass(1);
        Checks.group(y, "0>0:101", 0, 1, 1);
        y.pass(1);
        edges.due("a rejected group comes before none", y.preemptions(), 0);
        edges.due("place(1)", y.place(1), Edges.NONE);
        edges.due("pass(10)", y.pass(10), 0);
    }

    private static void threeGroups(CoflowSimulator x) {
        Checks.group(x, "0>0:100,1>1:50");
        Checks.group(x, "1>1:200");
        Checks.group(x, "2>2:300", 5, 1, 0);
        x.pass(1);
    }

    /** None of the groups -1 and 3 is there when there are three, nor any in a new object. */
    private void groupsOnly(String method, Question question) {
        for (int group : new int[] {-1, 3, 12, Integer.MIN_VALUE, Integer.MAX_VALUE}) {
            edges.refused(method + " of group " + group + " of three", TickEdges::threeGroups, y -> question.ask(y, group),
                    Edges.BAD_INDEX);
        }
        edges.refused(method + " of group 0 of none", y -> y.flow(0, 0, 1), y -> question.ask(y, 0), Edges.BAD_INDEX);
    }

    private interface Question {
        long ask(CoflowSimulator x, int group);
    }

    private void place() {
        CoflowSimulator x = edges.says(24, "Returns the place of a group in the order of step 1, if a tick was done now.");
        threeGroups(x);
        edges.due("place(1)", x.place(1), 0);
        long before = x.digest();
        x.place(1);
        edges.due("the digest behind it", x.digest(), before);
        x = edges.says(24, "group: number of the group");
        for (int i = 0; i < 12; i++) {
            x.flow(0, 0, 900 - i);
            x.addGroup(0, 1, 0);
        }
        x.setPolicy(2);
        edges.due("place(0)", x.place(0), 11);
        edges.due("place(11)", x.place(11), 0);
        edges.due("place(12)", x.place(12), Edges.BAD_INDEX);
        edges.due("place(-1)", x.place(-1), Edges.BAD_INDEX);
        x = edges.says(24, "Returns its place, 0 for the first one;");
        Checks.group(x, "0>0:300");
        edges.due("place(0) alone", x.place(0), 0);
        Checks.group(x, "0>0:200");
        edges.due("place(0) behind another", x.place(0), 1);
        edges.due("place(1)", x.place(1), 0);
        x = edges.says(24, "NONE if it would not be active in this tick;");
        x.setRules(true, true);
        threeGroups(x);
        Checks.group(x, "0>0:101", 0, 1, 1);
        edges.due("place(0) of a done group", x.place(0), Edges.NONE);
        edges.due("place(2) of a waiting group", x.place(2), Edges.NONE);
        edges.due("place(3) of a rejected group", x.place(3), Edges.NONE);
        x.pass(3);
        edges.due("place(2) a tick before its arrival", x.place(2), Edges.NONE);
        x.pass(1);
        edges.due("place(2) at its arrival", x.place(2), 0);
        edges.says(24, "BAD_INDEX if there is no such group.");
        groupsOnly("place", CoflowSimulator::place);
    }

    private void nextSpan() {
        CoflowSimulator x = edges.says(25, "Returns the span of a group in step 2, if a tick was done now.");
        Checks.group(x, "0>0:90");
        Checks.group(x, "0>1:100");
        long before = x.digest();
        edges.due("nextSpan(1) in what is left", x.nextSpan(1), 10);
        edges.due("the digest behind it", x.digest(), before);
        x = edges.says(25, "group: number of the group");
        for (int i = 0; i < 12; i++) {
            x.flow(i % 8, i % 8, 100);
            x.addGroup(0, 1, 0);
        }
        edges.due("nextSpan(0)", x.nextSpan(0), 1);
        edges.due("nextSpan(11)", x.nextSpan(11), Edges.NONE);
        edges.due("nextSpan(12)", x.nextSpan(12), Edges.BAD_INDEX);
        edges.due("nextSpan(-1)", x.nextSpan(-1), Edges.BAD_INDEX);
        x = edges.says(25, "Returns the span;");
        Checks.group(x, "0>0:1");
        edges.due("nextSpan(0) of a unit", x.nextSpan(0), 1);
        x.pass(1);
        Checks.group(x, "0>0:100000", 0, 1, 10000);
        x.setCapacity(0, 1);
        edges.due("nextSpan(1) of 100000 units with the capacity 1", x.nextSpan(1), 100000);
        x.setRules(true, true);
        x.setCapacity(0, 100);
        edges.due("nextSpan(1) with a deadline is the span all the same", x.nextSpan(1), 1000);
        x = edges.says(25, "NONE if there is none, or it would not be active in this tick;");
        x.setRules(true, true);
        threeGroups(x);
        Checks.group(x, "0>0:101", 0, 1, 1);
        edges.due("nextSpan(0) of a done group", x.nextSpan(0), Edges.NONE);
        edges.due("nextSpan(2) of a waiting group", x.nextSpan(2), Edges.NONE);
        edges.due("nextSpan(3) of a rejected group", x.nextSpan(3), Edges.NONE);
        edges.due("nextSpan(1) of an active group", x.nextSpan(1), 2);
        x.setCapacity(1, 0);
        edges.due("nextSpan(1) without capacity", x.nextSpan(1), Edges.NONE);
        x.setCapacity(1, 1);
        edges.due("nextSpan(1) with the capacity 1", x.nextSpan(1), 150);
        edges.says(25, "BAD_INDEX if there is no such group.");
        groupsOnly("nextSpan", CoflowSimulator::nextSpan);
    }

    private void nextRate() {
        CoflowSimulator x = edges.says(26, "Returns the rate of a flow after step 3, if a tick was done now.");
        Checks.group(x, "0>1:250,0>2:150");
        long before = x.digest();
        edges.due("nextRate(0, 0)", x.nextRate(0, 0), 70);
        edges.due("nextRate(0, 1)", x.nextRate(0, 1), 30);
        edges.due("the digest behind it", x.digest(), before);
        edges.says(26, "group: number of the group");
        groupsOnly("nextRate", (y, group) -> y.nextRate(group, 0));
        x = edges.says(26, "flow: number of the flow");
        for (int i = 0; i < 16; i++) {
            x.flow(i % 8, i % 8, i + 1);
        }
        x.addGroup(0, 1, 0);
        edges.due("nextRate(0, 0)", x.nextRate(0, 0), 1);
        edges.due("nextRate(0, 15)", x.nextRate(0, 15), 16);
        edges.due("nextRate(0, 16)", x.nextRate(0, 16), Edges.BAD_INDEX);
        edges.due("nextRate(0, -1)", x.nextRate(0, -1), Edges.BAD_INDEX);
        x = edges.says(26, "Returns the rate;");
        x.setRules(true, true);
        threeGroups(x);
        Checks.group(x, "0>0:101", 0, 1, 1);
        edges.due("nextRate(0, 0) of a done group", x.nextRate(0, 0), 0);
        edges.due("nextRate(1, 0) of an active group", x.nextRate(1, 0), 100);
        edges.due("nextRate(2, 0) of a waiting group", x.nextRate(2, 0), 0);
        edges.due("nextRate(3, 0) of a rejected group", x.nextRate(3, 0), 0);
        edges.says(26, "BAD_INDEX if there is no such group or flow.");
        groupsOnly("nextRate", (y, group) -> y.nextRate(group, 99));
        for (int flow : new int[] {-1, 2, 16, Integer.MIN_VALUE, Integer.MAX_VALUE}) {
            edges.refused("nextRate(0, " + flow + ") of two flows", TickEdges::threeGroups, y -> y.nextRate(0, flow),
                    Edges.BAD_INDEX);
        }
        edges.refused("nextRate(1, 1) of one flow", TickEdges::threeGroups, y -> y.nextRate(1, 1), Edges.BAD_INDEX);
    }

    private void spare() {
        CoflowSimulator x = edges.says(27, "Returns the available capacity of a port after step 3, if a tick was done now.");
        Checks.group(x, "0>1:250,0>2:20");
        long before = x.digest();
        edges.due("spare(0)", x.spare(0), 0);
        edges.due("spare(9)", x.spare(9), 100 - x.nextRate(0, 0));
        edges.due("the digest behind it", x.digest(), before);
        x = edges.says(27, "port: 0 to 7 for a sender, 8 to 15 for a receiver");
        Checks.group(x, "0>7:60,7>0:70");
        edges.due("spare(-1)", x.spare(-1), Edges.BAD_INDEX);
        edges.due("spare(0)", x.spare(0), 40);
        edges.due("spare(7)", x.spare(7), 30);
        edges.due("spare(8)", x.spare(8), 30);
        edges.due("spare(15)", x.spare(15), 40);
        edges.due("spare(16)", x.spare(16), Edges.BAD_INDEX);
        x = edges.says(27, "Returns the available capacity;");
        for (int port = 0; port < 16; port++) {
            edges.due("spare(" + port + ") without groups", x.spare(port), 100);
        }
        x.setCapacity(5, 0);
        x.setCapacity(15, 1000);
        edges.due("spare(5) of the capacity 0", x.spare(5), 0);
        edges.due("spare(15) of the capacity 1000", x.spare(15), 1000);
        edges.says(27, "BAD_INDEX if there is no such port.");
        for (int port : new int[] {-1, 16, Integer.MIN_VALUE, Integer.MAX_VALUE}) {
            edges.refused("spare(" + port + ")", TickEdges::threeGroups, y -> y.spare(port), Edges.BAD_INDEX);
        }
    }
}
