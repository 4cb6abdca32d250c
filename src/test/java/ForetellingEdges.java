/** Foretelling: promises 28 to 33, and what the description says of totals and of the best order. */
final class ForetellingEdges {
    private final Edges edges;

    ForetellingEdges(Edges edges) {
        this.edges = edges;
    }

    void run() {
        untilNoneIsOpen();
        threeHundredTicks();
        sums();
        fixedOrder();
        oneToFourGroups();
        noneIsGreatest();
        lexicographicallyFirst();
        outlook();
        outlookErrors();
        total();
        bestPolicy();
        bestOrder();
        bestOrderAt();
        bound();
        boundEdges();
    }

    private static void equalGroups(CoflowSimulator x, int many) {
        for (int i = 0; i < many; i++) {
            x.flow(0, 0, 100);
            x.addGroup(0, 1, 0);
        }
    }

    /** Two groups of 100 ticks and one of ticks more: only if group 1 is first, all are done ticks behind the time 100. */
    private CoflowSimulator narrow(int units) {
        CoflowSimulator x = edges.object();
        x.setRules(false, false);
        Checks.group(x, "0>0:10000");
        Checks.group(x, "0>1:10000,1>2:10000", 0, 2, 0);
        Checks.group(x, "1>3:" + units, 100, 1, 0);
        return x;
    }

    private void untilNoneIsOpen() {
        CoflowSimulator x = edges.says(0, "The total of a policy is found on a copy of the whole state that has this "
                + "policy: ticks are done until no group is waiting or active;");
        edges.due("total(0) without groups", x.total(0), 0);
        Checks.group(x, "0>0:300");
        Checks.group(x, "0>1:50");
        Checks.group(x, "1>1:100", 50, 1, 0);
        long before = x.digest();
        edges.due("total(0)", x.total(0), 1 + 4 + 1);
        edges.due("total(1)", x.total(1), 3 + 4 + 1);
        edges.due("the digest behind it", x.digest(), before);
        x.setPolicy(1);
        edges.due("total(0), whatever the policy is", x.total(0), 6);
        x.setRules(false, false);
        edges.due("total(1) with the rules of the state", x.total(1), 8);
        x.setCapacity(1, 50);
        edges.due("total(1) with the capacities of the state", x.total(1), 9);
    }

    private void threeHundredTicks() {
        CoflowSimulator x = edges.says(0, "if that takes more than 300 ticks, the total is NONE.");
        Checks.group(x, "0>0:30000");
        edges.due("300 ticks", x.total(0), 300);
        Checks.group(x, "1>1:30001");
        edges.due("301 ticks", x.total(0), Edges.NONE);
        x.pass(1);
        edges.due("301 ticks, one of them done", x.total(0), 601);
        CoflowSimulator y = edges.object();
        Checks.group(y, "0>0:100", 299, 1, 0);
        edges.due("300 ticks, most of them idle", y.total(0), 1);
        Checks.group(y, "1>1:1", 300, 1, 0);
        edges.due("301 ticks, most of them idle", y.total(0), Edges.NONE);
        y.pass(1);
        edges.due("a tick later", y.total(0), 2);
        CoflowSimulator z = narrow(20000);
        edges.due("by the policy 5, that takes 300 ticks", z.total(5), 500);
        edges.due("by the policy 0, that takes 400 ticks", z.total(0), Edges.NONE);
        edges.due("by the policy 5, that takes 301 ticks", narrow(20001).total(5), Edges.NONE);
        z.setCapacity(0, 0);
        edges.due("without capacity", z.total(5), Edges.NONE);
    }

    private void sums() {
        CoflowSimulator x = edges.says(0, "Otherwise it is the sum of (end minus arrival time) of all groups that are "
                + "done then, also of those that are done now.");
        x.setRules(true, true);
        x.pass(3);
        Checks.group(x, "0>0:200");
        Checks.group(x, "1>1:100", 5, 1, 0);
        Checks.group(x, "2>2:101", 0, 1, 1);
        edges.due("of an active, a waiting and a rejected group", x.total(0), 3);
        x.pass(2);
        edges.due("when one is done", x.total(0), 3);
        x.pass(10);
        edges.due("when all are done", x.total(0), 3);
        edges.due("when all are done, by another policy", x.total(5), 3);
        Checks.group(x, "0>0:100", 300, 1, 0);
        edges.due("with one that waits too long", x.total(0), Edges.NONE);
    }

    private void fixedOrder() {
        CoflowSimulator x = edges.says(0, "For a fixed order of groups, ticks are done on a copy in the same way, but in "
                + "step 1 the active groups are always put in this order, and deadlines are off.");
        x.setRules(false, true);
        Checks.group(x, "0>0:300", 0, 1, 100);
        Checks.group(x, "0>0:100");
        edges.due("total(0) with deadlines on", x.total(0), 102);
        edges.due("bestOrder() with deadlines off", x.bestOrder(), 5);
        edges.due("bestOrderAt(0)", x.bestOrderAt(0), 1);
        edges.due("deadlines are on all the same", x.setRules(true, true), 2);
        CoflowSimulator y = edges.object();
        Checks.group(y, "1>0:400,0>1:300");
        Checks.group(y, "0>1:200,0>0:100");
        Checks.group(y, "1>0:400,0>1:100");
        edges.due("an order that no policy has", y.bestOrder(), 18);
        edges.due("bestOrderAt(0)", y.bestOrderAt(0), 2);
        edges.due("bestOrderAt(1)", y.bestOrderAt(1), 1);
        edges.due("bestOrderAt(2)", y.bestOrderAt(2), 0);
        for (int policy = 0; policy < 6; policy++) {
            edges.due("a total of a policy is greater", y.total(policy) > 18 ? 1 : 0, 1);
        }
    }

    private void oneToFourGroups() {
        CoflowSimulator x = edges.says(0, "The best order is that of all groups that are waiting or active now, of which "
                + "there must be 1 to 4, whose total is least ");
        edges.due("no group", x.bestOrder(), Edges.BAD_STATE);
        int[] totals = {1, 3, 6, 10};
        for (int many = 1; many <= 4; many++) {
            equalGroups(x, 1);
            edges.due("groups: " + many, x.bestOrder(), totals[many - 1]);
        }
        Checks.group(x, "0>0:50", 9, 1, 0);
        edges.due("five groups, one of them waiting", x.bestOrder(), Edges.BAD_STATE);
        x.pass(1);
        edges.due("four groups, one of them waiting", x.bestOrder(), 11);
        edges.due("bestOrderAt(0)", x.bestOrderAt(0), 1);
        edges.due("bestOrderAt(3)", x.bestOrderAt(3), 4);
        x.setRules(true, true);
        Checks.group(x, "0>0:101", 0, 1, 1);
        edges.due("four groups, and a rejected one", x.bestOrder(), 11);
        edges.due("bestOrderAt(3)", x.bestOrderAt(3), 4);
        x.pass(3);
        edges.due("one group, which waits", x.bestOrder(), 11);
        edges.due("bestOrderAt(0)", x.bestOrderAt(0), 4);
        x.pass(6);
        edges.due("no group any more", x.bestOrder(), Edges.BAD_STATE);
    }

    private void noneIsGreatest() {
        CoflowSimulator x = edges.says(0, "(NONE is greater than all others);");
        x = narrow(20000);
        edges.due("bestOrder() where the first order has no total", x.bestOrder(), 500);
        edges.due("bestOrderAt(0)", x.bestOrderAt(0), 1);
        edges.due("bestOrderAt(1)", x.bestOrderAt(1), 0);
        edges.due("bestOrderAt(2)", x.bestOrderAt(2), 2);
        x = narrow(20001);
        edges.due("bestOrder() where no order has a total", x.bestOrder(), Edges.NONE);
    }

    private void lexicographicallyFirst() {
        CoflowSimulator x = edges.says(0, "of several the lexicographically first one as a sequence of group numbers.");
        equalGroups(x, 4);
        for (int i = 0; i < 4; i++) {
            edges.due("bestOrderAt(" + i + ") of equal groups", x.bestOrderAt(i), i);
        }
        CoflowSimulator y = edges.object();
        Checks.group(y, "0>0:200");
        Checks.group(y, "0>1:100");
        Checks.group(y, "1>2:100");
        Checks.group(y, "0>3:100");
        int[] want = {1, 2, 3, 0};
        for (int i = 0; i < 4; i++) {
            edges.due("bestOrderAt(" + i + ") of 2, 1, 1 and 1 ticks", y.bestOrderAt(i), want[i]);
        }
        CoflowSimulator z = narrow(20001);
        for (int i = 0; i < 3; i++) {
            edges.due("bestOrderAt(" + i + ") where no order has a total", z.bestOrderAt(i), i);
        }
        Checks.setAll(z, 0);
        for (int i = 0; i < 3; i++) {
            edges.due("bestOrderAt(" + i + ") without capacity", z.bestOrderAt(i), i);
        }
    }

    private void outlook() {
        CoflowSimulator x = edges.says(28, "Tells when a group will be done, if nothing is added or set: does up to 1000 "
                + "ticks on a copy of the whole state.");
        Checks.group(x, "0>0:100000");
        Checks.group(x, "1>1:100000,1>2:1");
        Checks.group(x, "2>3:100", 999, 1, 0);
        Checks.group(x, "3>4:1", 1000, 1, 0);
        x.flow(0, 0, 500);
        long before = x.digest();
        edges.due("outlook(0) of 1000 ticks", x.outlook(0), 1000);
        edges.due("outlook(1) of 1001 ticks", x.outlook(1), Edges.NONE);
        edges.due("outlook(2) that waits for 999 ticks", x.outlook(2), 1000);
        edges.due("outlook(3) that waits for 1000 ticks", x.outlook(3), Edges.NONE);
        edges.due("the digest behind it", x.digest(), before);
        x.pass(1);
        edges.due("outlook(1) a tick later", x.outlook(1), 1001);
        edges.due("outlook(3) a tick later", x.outlook(3), 1001);
        x.pass(500);
        x.pass(500);
        edges.due("end(1) as it was foretold", x.end(1), 1001);
        edges.due("end(3) as it was foretold", x.end(3), 1001);
        x = edges.says(28, "group: number of the group");
        equalGroups(x, 12);
        edges.due("outlook(0)", x.outlook(0), 1);
        edges.due("outlook(11)", x.outlook(11), 12);
        edges.due("outlook(12)", x.outlook(12), Edges.BAD_INDEX);
        edges.due("outlook(-1)", x.outlook(-1), Edges.BAD_INDEX);
    }

    private void outlookErrors() {
        CoflowSimulator x = edges.says(28, "Returns its end;");
        Checks.group(x, "0>0:300");
        Checks.group(x, "0>0:100", 1, 1, 0);
        edges.due("outlook(0)", x.outlook(0), 4);
        edges.due("outlook(1) of a waiting group", x.outlook(1), 2);
        x.pass(4);
        edges.due("outlook(0) of a done group", x.outlook(0), 4);
        x.pass(500);
        edges.due("outlook(0) of a group that has been done for long", x.outlook(0), 4);
        x = edges.says(28, "NONE if it is rejected, or not done then;");
        x.setRules(true, true);
        Checks.group(x, "0>0:101", 0, 1, 1);
        Checks.group(x, "0>0:100");
        edges.due("outlook(0) of a rejected group", x.outlook(0), Edges.NONE);
        edges.due("outlook(1)", x.outlook(1), 1);
        x.setCapacity(0, 0);
        edges.due("outlook(1) without capacity", x.outlook(1), Edges.NONE);
        x.setCapacity(0, 1);
        edges.due("outlook(1) with the capacity 1", x.outlook(1), 100);
        edges.says(28, "BAD_INDEX if there is no such group.");
        for (int group : new int[] {-1, 4, 12, Integer.MIN_VALUE, Integer.MAX_VALUE}) {
            edges.refused("outlook(" + group + ") of four", y -> equalGroups(y, 4), y -> y.outlook(group), Edges.BAD_INDEX);
        }
        edges.refused("outlook(0) of none", y -> y.flow(0, 0, 1), y -> y.outlook(0), Edges.BAD_INDEX);
    }

    private void total() {
        CoflowSimulator x = edges.says(29, "Returns the total of a policy.");
        Checks.group(x, "0>0:200", 0, 1, 0);
        Checks.group(x, "0>0:300", 0, 2, 0);
        edges.due("total(0)", x.total(0), 7);
        edges.due("total(5)", x.total(5), 8);
        x = edges.says(29, "policy: 0 to 5");
        equalGroups(x, 2);
        edges.due("total(-1)", x.total(-1), Edges.BAD_VALUE);
        for (int policy = 0; policy <= 5; policy++) {
            edges.due("total(" + policy + ")", x.total(policy), 3);
        }
        edges.due("total(6)", x.total(6), Edges.BAD_VALUE);
        x = edges.says(29, "Returns the total;");
        edges.due("total(5) without groups", x.total(5), 0);
        equalGroups(x, 12);
        edges.due("total(0) of twelve groups", x.total(0), 78);
        x = edges.says(29, "NONE if there is none;");
        Checks.group(x, "0>0:30001");
        for (int policy = 0; policy <= 5; policy++) {
            edges.due("total(" + policy + ") of 301 ticks", x.total(policy), Edges.NONE);
        }
        edges.due("total(6) of 301 ticks", x.total(6), Edges.BAD_VALUE);
        edges.says(29, "BAD_VALUE if policy is out of range.");
        for (int policy : new int[] {-1, 6, Integer.MIN_VALUE, Integer.MAX_VALUE}) {
            edges.refused("total(" + policy + ")", y -> equalGroups(y, 2), y -> y.total(policy), Edges.BAD_VALUE);
            edges.refused("total(" + policy + ") without groups", y -> y.flow(0, 0, 1), y -> y.total(policy), Edges.BAD_VALUE);
        }
    }

    private void bestPolicy() {
        CoflowSimulator x = edges.says(30, "Returns the policy with the least total.");
        Checks.group(x, "0>0:200,1>1:200,2>2:200,3>3:200");
        Checks.group(x, "0>0:300");
        Checks.group(x, "1>1:300");
        Checks.group(x, "2>2:300");
        Checks.group(x, "3>3:300");
        edges.due("total(0)", x.total(0), 22);
        edges.due("total(1)", x.total(1), 22);
        edges.due("total(2)", x.total(2), 17);
        edges.due("bestPolicy()", x.bestPolicy(), 2);
        x.setPolicy(5);
        long before = x.digest();
        edges.due("bestPolicy(), whatever the policy is", x.bestPolicy(), 2);
        edges.due("the digest behind it", x.digest(), before);
        x = edges.object();
        x.setRules(false, false);
        Checks.group(x, "1>2:400,0>1:200", 2, 1, 0);
        Checks.group(x, "0>1:400", 1, 1, 0);
        for (int policy = 0; policy < 6; policy++) {
            edges.due("total(" + policy + ")", x.total(policy), policy == 4 ? 12 : 11);
        }
        edges.due("bestPolicy() where an order is better than each policy", x.bestPolicy(), 0);
        edges.due("the total of that order", x.bestOrder(), 10);
        edges.due("bestPolicy() behind it", x.bestPolicy(), 0);
        x = edges.says(30, "Returns the policy, of several the lowest;");
        x.setPolicy(3);
        edges.due("bestPolicy() without groups", x.bestPolicy(), 0);
        equalGroups(x, 5);
        edges.due("bestPolicy() of equal groups", x.bestPolicy(), 0);
        edges.due("bestPolicy() where the last policy alone has a total", narrow(20000).bestPolicy(), 5);
        x = edges.says(30, "NONE if all totals are NONE.");
        Checks.group(x, "0>0:30001");
        edges.due("bestPolicy() of 301 ticks", x.bestPolicy(), Edges.NONE);
        x.pass(1);
        edges.due("bestPolicy() of 300 ticks", x.bestPolicy(), 0);
        x.setCapacity(0, 0);
        edges.due("bestPolicy() without capacity", x.bestPolicy(), Edges.NONE);
        edges.due("bestPolicy() where no policy has a total", narrow(20001).bestPolicy(), Edges.NONE);
    }

    private void bestOrder() {
        CoflowSimulator x = edges.says(31, "Returns the total of the best order.");
        Checks.group(x, "0>0:300");
        Checks.group(x, "0>1:50");
        long before = x.digest();
        edges.due("bestOrder()", x.bestOrder(), 5);
        edges.due("the digest behind it", x.digest(), before);
        x = edges.says(31, "Returns the total;");
        Checks.group(x, "0>0:30000");
        edges.due("bestOrder() of 300 ticks", x.bestOrder(), 300);
        Checks.group(x, "1>1:1");
        edges.due("bestOrder() of two", x.bestOrder(), 301);
        x.pass(1);
        edges.due("bestOrder() when one is done", x.bestOrder(), 301);
        x = edges.says(31, "NONE if there is none;");
        Checks.group(x, "0>0:30001");
        edges.due("bestOrder() of 301 ticks", x.bestOrder(), Edges.NONE);
        x.pass(1);
        edges.due("bestOrder() of 300 ticks", x.bestOrder(), 301);
        x.setCapacity(8, 0);
        edges.due("bestOrder() without capacity", x.bestOrder(), Edges.NONE);
        edges.says(31, "BAD_STATE if not 1 to 4 groups are waiting or active.");
        for (int many : new int[] {0, 5, 12}) {
            edges.refused("bestOrder() of " + many + " groups", y -> equalGroups(y, many), CoflowSimulator::bestOrder,
                    Edges.BAD_STATE);
        }
        edges.refused("bestOrder() when all are done", y -> {
            equalGroups(y, 4);
            y.pass(4);
        }, CoflowSimulator::bestOrder, Edges.BAD_STATE);
        edges.refused("bestOrder() of five without a total", y -> {
            equalGroups(y, 5);
            y.setCapacity(0, 0);
        }, CoflowSimulator::bestOrder, Edges.BAD_STATE);
    }

    private void bestOrderAt() {
        CoflowSimulator x = edges.says(32, "Returns a group of the best order.");
        Checks.group(x, "0>0:300");
        Checks.group(x, "0>1:50");
        long before = x.digest();
        edges.due("bestOrderAt(0)", x.bestOrderAt(0), 1);
        edges.due("bestOrderAt(1)", x.bestOrderAt(1), 0);
        edges.due("the digest behind it", x.digest(), before);
        x = edges.says(32, "index: its index, from 0");
        for (int i = 0; i < 4; i++) {
            x.flow(0, 0, 400 - 100 * i);
            x.addGroup(0, 1, 0);
        }
        edges.due("bestOrderAt(-1)", x.bestOrderAt(-1), Edges.BAD_INDEX);
        for (int i = 0; i < 4; i++) {
            edges.due("bestOrderAt(" + i + ")", x.bestOrderAt(i), 3 - i);
        }
        edges.due("bestOrderAt(4)", x.bestOrderAt(4), Edges.BAD_INDEX);
        x = edges.says(32, "Returns the number of the group;");
        equalGroups(x, 12);
        x.pass(8);
        for (int i = 0; i < 4; i++) {
            edges.due("bestOrderAt(" + i + ") when eight are done", x.bestOrderAt(i), 8 + i);
        }
        for (int done = 9; done < 12; done++) {
            x.pass(1);
            edges.due("bestOrder() when " + done + " are done", x.bestOrder(), 78);
            edges.due("bestOrderAt(0) when " + done + " are done", x.bestOrderAt(0), done);
            edges.due("the last one when " + done + " are done", x.bestOrderAt(11 - done), 11);
            edges.due("one more when " + done + " are done", x.bestOrderAt(12 - done), Edges.BAD_INDEX);
        }
        edges.says(32, "BAD_INDEX if index is not from 0 to the number of groups that are waiting or active minus 1;");
        for (int many : new int[] {0, 1, 2, 3, 4, 5, 12}) {
            for (int index : new int[] {-1, many, many + 1, Integer.MIN_VALUE, Integer.MAX_VALUE}) {
                edges.refused("bestOrderAt(" + index + ") of " + many + " groups", y -> equalGroups(y, many),
                        y -> y.bestOrderAt(index), Edges.BAD_INDEX);
            }
        }
        edges.refused("bestOrderAt(2) when two of four are done", y -> {
            equalGroups(y, 4);
            y.pass(2);
        }, y -> y.bestOrderAt(2), Edges.BAD_INDEX);
        edges.says(32, "BAD_STATE if not 1 to 4 groups are waiting or active.");
        for (int many : new int[] {5, 12}) {
            for (int index : new int[] {0, 3, 4, many - 1}) {
                edges.refused("bestOrderAt(" + index + ") of " + many + " groups", y -> equalGroups(y, many),
                        y -> y.bestOrderAt(index), Edges.BAD_STATE);
            }
        }
    }

    private void bound() {
        CoflowSimulator x = edges.says(33, "Returns a bound: the greatest value, over all ports, of (sum of the rests of "
                + "all flows that use the port, of groups that are waiting or active) / (capacity of the port), rounded "
                + "up.");
        Checks.group(x, "0>0:200,0>1:100");
        edges.due("300 / 100 at sender 0", x.bound(), 3);
        Checks.group(x, "1>0:101", 1000, 1, 0);
        edges.due("301 / 100 at receiver 0, with a waiting group", x.bound(), 4);
        x.setCapacity(8, 301);
        edges.due("300 / 100 at sender 0", x.bound(), 3);
        x.setCapacity(0, 300);
        edges.due("101 / 100 at sender 1", x.bound(), 2);
        x.setCapacity(1, 101);
        edges.due("1 at each port", x.bound(), 1);
        x.setCapacity(1, 1);
        edges.due("101 / 1 at sender 1", x.bound(), 101);
        x.setRules(true, true);
        Checks.group(x, "7>7:100000", 0, 1, 1);
        edges.due("without a rejected group", x.bound(), 101);
        x.flow(7, 7, 100000);
        edges.due("without the draft", x.bound(), 101);
        x = edges.says(33, "(If nothing is added or set, at least so many ticks pass until all these groups are done.)");
        Checks.group(x, "0>0:301");
        Checks.group(x, "0>1:200");
        edges.due("bound()", x.bound(), 6);
        edges.due("a group is active a tick before", x.pass(5), 1);
        edges.due("bound() of what is left", x.bound(), 1);
        edges.due("none is active then", x.pass(1), 0);
    }

    private void boundEdges() {
        CoflowSimulator x = edges.says(33, "Returns the bound;");
        Checks.group(x, "0>0:1");
        edges.due("bound() of a unit", x.bound(), 1);
        x = edges.object();
        x.setCapacity(0, 1);
        for (int group = 0; group < 12; group++) {
            for (int flow = 0; flow < 16; flow++) {
                x.flow(0, flow % 8, 100000);
            }
            x.addGroup(0, 1, 0);
        }
        edges.due("bound() of the greatest sum with the least capacity", x.bound(), 19200000);
        x = edges.says(33, "0 if no group is waiting or active;");
        edges.due("bound() of a new object", x.bound(), 0);
        x.setCapacity(0, 0);
        edges.due("bound() of a new object without capacity", x.bound(), 0);
        Checks.group(x, "1>1:100");
        x.setRules(true, true);
        Checks.group(x, "0>0:1", 0, 1, 1);
        x.pass(1);
        x.setCapacity(1, 0);
        edges.due("bound() of a done and a rejected group, without capacity", x.bound(), 0);
        x = edges.says(33, "NONE if a port with the capacity 0 is used by such a flow that is not done.");
        Checks.group(x, "0>0:100,1>1:500");
        x.setCapacity(7, 0);
        x.setCapacity(15, 0);
        edges.due("bound() with the capacity 0 of ports that are not used", x.bound(), 5);
        x.setCapacity(0, 0);
        edges.due("bound() with the capacity 0 of a sender", x.bound(), Edges.NONE);
        x.setCapacity(0, 100);
        x.setCapacity(8, 0);
        edges.due("bound() with the capacity 0 of a receiver", x.bound(), Edges.NONE);
        x.setCapacity(8, 1);
        edges.due("bound() with the capacity 1 of a receiver", x.bound(), 100);
        x.setCapacity(8, 100);
        x.pass(1);
        edges.due("flow 0 is done", x.flowPart(0, 0, 3), 0);
        x.setCapacity(0, 0);
        x.setCapacity(8, 0);
        edges.due("bound() with the capacity 0 of the ports of a done flow", x.bound(), 4);
        Checks.group(x, "0>1:1", 1000, 1, 0);
        edges.due("bound() with the capacity 0 of the port of a waiting group", x.bound(), Edges.NONE);
    }
}
