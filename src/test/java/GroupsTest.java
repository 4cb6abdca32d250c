import java.util.Random;

/** Promises 15 to 23: groups and flows. */
public final class GroupsTest {
    private static final Checks CHECKS = new Checks();

    private static void due(int promise, String what, long got, long want) {
        CHECKS.due(promise, what, got, want);
    }

    public static void main(String[] args) {
        wrongGroups();
        groupCount();
        state();
        arrivalAndEnd();
        flowCount();
        flowPart();
        rest();
        level();
        loneSpan();
        loneSpanOfWhatIsLeft();
        loneSpanByTrial();
        fullHouse();
        CHECKS.finish();
    }

    private static void noSuchGroup(CoflowSimulator x, int group) {
        due(16, "state(" + group + ")", x.state(group), Checks.BAD_INDEX);
        due(17, "arrival(" + group + ")", x.arrival(group), Checks.BAD_INDEX);
        due(18, "end(" + group + ")", x.end(group), Checks.BAD_INDEX);
        due(19, "flowCount(" + group + ")", x.flowCount(group), Checks.BAD_INDEX);
        due(20, "flowPart(" + group + ", 0, 0)", x.flowPart(group, 0, 0), Checks.BAD_INDEX);
        due(20, "flowPart(" + group + ", 0, 5)", x.flowPart(group, 0, 5), Checks.BAD_INDEX);
        due(21, "rest(" + group + ")", x.rest(group), Checks.BAD_INDEX);
        due(22, "level(" + group + ")", x.level(group), Checks.BAD_INDEX);
        due(23, "loneSpan(" + group + ")", x.loneSpan(group), Checks.BAD_INDEX);
    }

    private static void wrongGroups() {
        CoflowSimulator x = new CoflowSimulator();
        noSuchGroup(x, 0);
        for (int i = 0; i < 12; i++) {
            Checks.group(x, "0>0:5");
            noSuchGroup(x, i + 1);
        }
        for (int far : Checks.FAR_OFF) {
            noSuchGroup(x, far);
        }
        x.undo();
        noSuchGroup(x, 11);
    }

    private static void groupCount() {
        CoflowSimulator x = new CoflowSimulator();
        x.setRules(true, true);
        due(15, "groupCount()", x.groupCount(), 0);
        Checks.group(x, "0>0:5");
        due(15, "groupCount()", x.groupCount(), 1);
        Checks.group(x, "0>0:5000", 0, 1, 1);
        due(15, "groupCount() with a rejected one", x.groupCount(), 2);
        x.pass(1);
        due(15, "groupCount() with a done one", x.groupCount(), 2);
        x.flow(0, 0, 1);
        due(15, "groupCount() with a draft", x.groupCount(), 2);
        x.undo();
        x.undo();
        x.undo();
        due(15, "groupCount() behind undo", x.groupCount(), 1);
    }

    private static void state() {
        CoflowSimulator x = new CoflowSimulator();
        x.setRules(true, true);
        Checks.group(x, "0>0:150", 2, 1, 0);
        Checks.group(x, "0>0:5000", 0, 1, 1);
        due(16, "waiting", x.state(0), 0);
        due(16, "rejected", x.state(1), 3);
        x.pass(1);
        due(16, "waiting", x.state(0), 0);
        x.pass(1);
        due(16, "active", x.state(0), 1);
        x.pass(1);
        due(16, "active", x.state(0), 1);
        x.pass(1);
        due(16, "done", x.state(0), 2);
        due(16, "rejected", x.state(1), 3);
        x.undo();
        due(16, "active behind undo", x.state(0), 1);
    }

    private static void arrivalAndEnd() {
        CoflowSimulator x = new CoflowSimulator();
        x.setRules(true, true);
        x.pass(4);
        Checks.group(x, "0>0:250", 0, 1, 0);
        Checks.group(x, "1>1:100", 6, 1, 0);
        Checks.group(x, "2>2:5000", 9, 1, 1);
        due(17, "arrival(0)", x.arrival(0), 4);
        due(17, "arrival(1)", x.arrival(1), 10);
        due(17, "arrival(2) of a rejected group", x.arrival(2), 13);
        due(18, "end(0) of an active group", x.end(0), Checks.NONE);
        due(18, "end(1) of a waiting group", x.end(1), Checks.NONE);
        due(18, "end(2) of a rejected group", x.end(2), Checks.NONE);
        x.pass(2);
        due(18, "end(0)", x.end(0), Checks.NONE);
        x.pass(1);
        due(18, "end(0)", x.end(0), 7);
        x.pass(100);
        due(18, "end(0) later", x.end(0), 7);
        due(18, "end(1)", x.end(1), 11);
        due(18, "end(2)", x.end(2), Checks.NONE);
        due(17, "arrival(1) later", x.arrival(1), 10);
        x.undo();
        due(18, "end(1) behind undo", x.end(1), Checks.NONE);
    }

    private static void flowCount() {
        CoflowSimulator x = new CoflowSimulator();
        Checks.group(x, "0>0:5,1>1:5,0>0:5");
        Checks.group(x, "0>0:5");
        for (int i = 0; i < 16; i++) {
            x.flow(0, 0, 1);
        }
        x.addGroup(0, 1, 0);
        due(19, "flowCount(0)", x.flowCount(0), 3);
        due(19, "flowCount(1)", x.flowCount(1), 1);
        due(19, "flowCount(2)", x.flowCount(2), 16);
        x.pass(1);
        due(19, "flowCount(0) with flows that are done", x.flowCount(0), 3);
    }

    private static void flowPart() {
        CoflowSimulator x = new CoflowSimulator();
        Checks.group(x, "7>6:500,2>3:40");
        int[][] fresh = {{7, 6, 500, 500, 0}, {2, 3, 40, 40, 0}};
        int[][] later = {{7, 6, 500, 400, 100}, {2, 3, 40, 0, 40}};
        int[][] last = {{7, 6, 500, 300, 100}, {2, 3, 40, 0, 0}};
        parts(x, 0, fresh);
        x.pass(1);
        parts(x, 0, later);
        Checks.group(x, "7>6:500,2>3:40");
        parts(x, 1, fresh);
        x.undo();
        x.undo();
        x.pass(1);
        parts(x, 0, last);
        for (int far : Checks.FAR_OFF) {
            due(20, "flowPart(0, " + far + ", 0)", x.flowPart(0, far, 0), Checks.BAD_INDEX);
            due(20, "flowPart(0, " + far + ", 9)", x.flowPart(0, far, 9), Checks.BAD_INDEX);
            due(20, "flowPart(0, 0, " + far + ")", x.flowPart(0, 0, far), Checks.BAD_VALUE);
        }
        due(20, "flowPart(0, 2, 0)", x.flowPart(0, 2, 0), Checks.BAD_INDEX);
        due(20, "flowPart(0, 0, 5)", x.flowPart(0, 0, 5), Checks.BAD_VALUE);
        due(20, "the next rate is not the latest one", x.nextRate(0, 0) + x.flowPart(0, 1, 4), 100);
    }

    private static void parts(CoflowSimulator x, int group, int[][] want) {
        for (int flow = 0; flow < want.length; flow++) {
            for (int what = 0; what < 5; what++) {
                due(20, "flowPart(" + group + ", " + flow + ", " + what + ")", x.flowPart(group, flow, what),
                        want[flow][what]);
            }
        }
    }

    private static void rest() {
        CoflowSimulator x = new CoflowSimulator();
        Checks.group(x, "0>0:250,1>1:70");
        due(21, "rest(0)", x.rest(0), 320);
        x.pass(1);
        due(21, "rest(0)", x.rest(0), 150);
        x.pass(2);
        due(21, "rest(0) when it is done", x.rest(0), 0);
        for (int i = 0; i < 16; i++) {
            x.flow(i % 8, 0, 100000);
        }
        x.addGroup(5, 1, 0);
        due(21, "rest(1)", x.rest(1), 1600000);
    }

    private static void level() {
        CoflowSimulator x = new CoflowSimulator();
        Checks.group(x, "0>0:60,1>1:100000");
        due(22, "level(0)", x.level(0), 0);
        int[] capacities = {39, 1, 899, 1, 1000, 1000, 1000, 1000, 1000, 1000, 1000, 1000, 999, 1};
        int[] levels = {0, 1, 1, 2, 2, 2, 2, 2, 2, 2, 2, 2, 2, 3};
        x.setCapacity(9, 1000);
        for (int i = 0; i < capacities.length; i++) {
            x.setCapacity(1, capacities[i]);
            x.pass(1);
            due(22, "level(0) behind " + (100060 - x.rest(0)), x.level(0), levels[i]);
        }
        x.setCapacity(1, 1000);
        x.pass(89);
        x.setCapacity(1, 999);
        x.pass(1);
        due(22, "rest(0)", x.rest(0), 61);
        due(22, "level(0) behind 99999", x.level(0), 3);
        x.setCapacity(1, 1);
        x.pass(1);
        due(22, "level(0) behind 100000", x.level(0), 4);
        x.setCapacity(1, 100);
        x.pass(1);
        due(22, "level(0) when it is done", x.level(0), 4);
        due(22, "state(0)", x.state(0), 2);
    }

    private static void loneSpan() {
        CoflowSimulator x = new CoflowSimulator();
        x.setRules(true, true);
        Checks.group(x, "0>1:250,0>2:150");
        Checks.group(x, "0>1:101", 7, 1, 0);
        Checks.group(x, "3>3:100000", 0, 1, 2);
        Checks.group(x, "4>4:100");
        due(23, "loneSpan(0)", x.loneSpan(0), 5);
        due(23, "loneSpan(1) of a waiting group", x.loneSpan(1), 2);
        due(23, "loneSpan(2) of a rejected group", x.loneSpan(2), 1000);
        due(23, "loneSpan(3)", x.loneSpan(3), 1);
        x.pass(1);
        due(23, "loneSpan(3) of a done group", x.loneSpan(3), Checks.NONE);
        x.setCapacity(0, 1);
        due(23, "loneSpan(0) with less capacity than flows", x.loneSpan(0), Checks.NONE);
        due(23, "loneSpan(1) with capacity 1", x.loneSpan(1), 101);
        x.setCapacity(0, 2);
        due(23, "loneSpan(0) with capacity 2", x.loneSpan(0), 180);
        x.setCapacity(0, 100);
        x.setCapacity(10, 0);
        due(23, "loneSpan(0) without capacity of a receiver", x.loneSpan(0), Checks.NONE);
        x.setCapacity(10, 100);
        x.setCapacity(7, 0);
        due(23, "loneSpan(0) without capacity of another port", x.loneSpan(0), 3);
    }

    private static void loneSpanOfWhatIsLeft() {
        CoflowSimulator x = new CoflowSimulator();
        Checks.group(x, "0>0:10,0>1:500,1>2:10");
        x.pass(1);
        due(23, "rest(0)", x.rest(0), 410);
        x.setCapacity(0, 1);
        x.setCapacity(8, 0);
        x.setCapacity(1, 0);
        due(23, "flows that are done need no capacity", x.loneSpan(0), 410);
        due(25, "flows that are done need no capacity", x.nextSpan(0), 410);
        x.pass(1);
        due(12, "rest(0)", x.rest(0), 409);
    }

    /** Twelve groups of sixteen flows, all of the greatest size. */
    private static void fullHouse() {
        CoflowSimulator x = new CoflowSimulator();
        x.setRules(true, true);
        Checks.setAll(x, 1000);
        for (int group = 0; group < 12; group++) {
            for (int flow = 0; flow < 16; flow++) {
                x.flow(flow % 8, (group + flow) % 8, 100000);
            }
            due(8, "addGroup", x.addGroup(0, 1, 10000), group);
        }
        for (int group = 0; group < 12; group++) {
            due(16, "state(" + group + ")", x.state(group), 1);
            due(21, "rest(" + group + ")", x.rest(group), 1600000);
            due(22, "level(" + group + ")", x.level(group), 0);
            due(23, "loneSpan(" + group + ")", x.loneSpan(group), 200);
            due(24, "place(" + group + ")", x.place(group), group);
            due(29, "total", x.total(group % 6), Checks.NONE);
        }
        due(33, "bound()", x.bound(), 2400);
        x.setRules(true, false);
        due(12, "pass(200)", x.pass(200), 11);
        due(18, "end(0)", x.end(0), 200);
        due(33, "bound()", x.bound(), 2200);
        x.pass(500);
        x.pass(500);
        due(28, "outlook(11)", x.outlook(11), Checks.NONE);
        x.pass(200);
        due(28, "outlook(11)", x.outlook(11), 2400);
        due(12, "pass(500)", x.pass(500), 3);
        due(31, "bestOrder()", x.bestOrder(), Checks.NONE);
        due(32, "bestOrderAt(0)", x.bestOrderAt(0), 9);
        due(32, "bestOrderAt(2)", x.bestOrderAt(2), 11);
        due(12, "pass(500)", x.pass(500), 0);
        due(18, "end(11)", x.end(11), 2400);
        due(22, "level(11)", x.level(11), 4);
        for (int port = 0; port < 16; port++) {
            due(34, "moved(" + port + ")", x.moved(port), 2400000);
        }
        due(29, "total(0)", x.total(0), 200 * 78);
    }

    /** The least G is sought one by one. */
    private static void loneSpanByTrial() {
        Random random = new Random(23);
        for (int round = 0; round < 400; round++) {
            CoflowSimulator x = new CoflowSimulator();
            int most = new int[] {5, 40, 400, 3000}[random.nextInt(4)];
            int count = 1 + random.nextInt(16);
            int ports = 1 + random.nextInt(8);
            int[] capacity = new int[16];
            for (int port = 0; port < 16; port++) {
                capacity[port] = 1 + random.nextInt(new int[] {4, 20, 100}[random.nextInt(3)]);
                x.setCapacity(port, capacity[port]);
            }
            int[][] flows = new int[count][];
            for (int i = 0; i < count; i++) {
                flows[i] = new int[] {random.nextInt(ports), random.nextInt(ports), 1 + random.nextInt(most)};
                x.flow(flows[i][0], flows[i][1], flows[i][2]);
            }
            x.addGroup(0, 1, 0);
            due(23, "loneSpan(0) of round " + round, x.loneSpan(0), leastSpan(flows, capacity));
        }
    }

    private static int leastSpan(int[][] flows, int[] capacity) {
        for (int span = 1; span <= 3000; span++) {
            int[] left = capacity.clone();
            boolean enough = true;
            for (int[] flow : flows) {
                int rate = flow[2] / span + (flow[2] % span > 0 ? 1 : 0);
                left[flow[0]] -= rate;
                left[8 + flow[1]] -= rate;
                enough &= left[flow[0]] >= 0 && left[8 + flow[1]] >= 0;
            }
            if (enough) {
                return span;
            }
        }
        return Checks.NONE;
    }
}
