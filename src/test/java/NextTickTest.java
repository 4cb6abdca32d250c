/** Promises 24 to 27: the next tick. */
public final class NextTickTest {
    private static final Checks CHECKS = new Checks();

    private static void due(int promise, String what, long got, long want) {
        CHECKS.due(promise, what, got, want);
    }

    public static void main(String[] args) {
        placeByEachPolicy();
        placeOfEqualOnes();
        placeByExactFractions();
        placeByLevel();
        placeWithDeadlines();
        placeOfOthers();
        nextSpan();
        nextRate();
        nextRateWithDeadlines();
        spare();
        nothingIsChanged();
        CHECKS.finish();
    }

    private static void order(CoflowSimulator x, String what, int... groups) {
        for (int i = 0; i < groups.length; i++) {
            due(24, "place(" + groups[i] + ") " + what, x.place(groups[i]), i);
        }
    }

    private static void placeByEachPolicy() {
        CoflowSimulator x = new CoflowSimulator();
        Checks.group(x, "0>0:500", 3, 5, 0);
        Checks.group(x, "1>1:200,2>2:200,3>3:200", 2, 1, 0);
        Checks.group(x, "4>4:300,5>5:10", 1, 1, 0);
        Checks.passIdle(x, 3);
        int[][] orders = {{1, 2, 0}, {2, 1, 0}, {2, 0, 1}, {0, 2, 1}, {2, 1, 0}, {0, 1, 2}};
        for (int policy = 0; policy < 6; policy++) {
            x.setPolicy(policy);
            order(x, "by policy " + policy, orders[policy]);
        }
        x.setCapacity(1, 0);
        x.setCapacity(12, 0);
        x.setPolicy(0);
        order(x, "by policy 0, with spans of NONE", 0, 1, 2);
        x.setCapacity(0, 0);
        order(x, "by policy 0, with spans of NONE alone", 0, 1, 2);
        x.setCapacity(12, 100);
        order(x, "by policy 0, with one span", 2, 0, 1);
        x.setPolicy(5);
        order(x, "by policy 5, with one span", 2, 0, 1);
        x.setPolicy(1);
        order(x, "by policy 1, without spans", 2, 1, 0);
    }

    private static void placeOfEqualOnes() {
        CoflowSimulator x = new CoflowSimulator();
        Checks.group(x, "0>0:200", 0, 1, 0);
        Checks.group(x, "0>1:200", 0, 2, 0);
        Checks.group(x, "1>0:200", 0, 1, 0);
        Checks.group(x, "1>1:200", 0, 2, 0);
        for (int policy = 0; policy < 5; policy++) {
            x.setPolicy(policy);
            order(x, "of equal ones by policy " + policy, 0, 1, 2, 3);
        }
        x.setPolicy(5);
        order(x, "of equal ones by policy 5", 1, 3, 0, 2);
        Checks.setAll(x, 0);
        order(x, "of groups without a span by policy 5", 0, 1, 2, 3);
    }

    private static void placeByExactFractions() {
        CoflowSimulator x = new CoflowSimulator();
        x.setPolicy(5);
        Checks.group(x, "0>0:6700", 0, 100, 0);
        Checks.group(x, "0>0:200", 0, 3, 0);
        order(x, "67 / 100 and 2 / 3", 1, 0);
        Checks.group(x, "0>0:9900", 0, 100, 0);
        Checks.group(x, "0>0:9800", 0, 99, 0);
        order(x, "99 / 100 and 98 / 99", 1, 0, 3, 2);
        Checks.group(x, "0>0:400", 0, 6, 0);
        order(x, "4 / 6 and 2 / 3", 1, 4, 0, 3, 2);
    }

    private static void placeByLevel() {
        CoflowSimulator x = new CoflowSimulator();
        x.setPolicy(4);
        Checks.group(x, "0>0:5000");
        Checks.group(x, "0>1:5000");
        order(x, "both of level 0", 0, 1);
        x.pass(1);
        due(24, "level(0)", x.level(0), 1);
        order(x, "of levels 1 and 0", 1, 0);
        x.pass(1);
        order(x, "both of level 1", 0, 1);
        Checks.group(x, "5>5:5000");
        order(x, "of levels 1, 1 and 0", 2, 0, 1);
        x.pass(1);
        due(24, "level(2)", x.level(2), 1);
        order(x, "of level 1, by arrival", 0, 1, 2);
    }

    private static void placeWithDeadlines() {
        CoflowSimulator x = new CoflowSimulator();
        Checks.group(x, "0>0:1");
        Checks.group(x, "1>1:900", 0, 1, 50);
        Checks.group(x, "2>2:900", 0, 1, 40);
        Checks.group(x, "3>3:500");
        Checks.group(x, "4>4:900", 10, 1, 30);
        Checks.group(x, "5>5:100", 10, 1, 39);
        Checks.passIdle(x, 10);
        order(x, "with deadlines off", 0, 5, 3, 1, 2, 4);
        x.setRules(true, true);
        order(x, "with deadlines on", 2, 4, 5, 1, 0, 3);
        x.setPolicy(2);
        order(x, "with deadlines on, by policy 2", 2, 4, 5, 1, 0, 3);
        Checks.passIdle(x, 100);
        order(x, "behind all deadlines", 2, 4, 5, 1, 0, 3);
        x.setRules(true, false);
        Checks.group(x, "6>6:90", 0, 1, 1);
        x.setRules(true, true);
        order(x, "with a deadline of 1", 2, 4, 5, 1, 6, 0, 3);
    }

    private static void placeOfOthers() {
        CoflowSimulator x = new CoflowSimulator();
        due(24, "place(0)", x.place(0), Checks.BAD_INDEX);
        due(25, "nextSpan(0)", x.nextSpan(0), Checks.BAD_INDEX);
        due(26, "nextRate(0, 0)", x.nextRate(0, 0), Checks.BAD_INDEX);
        x.setRules(true, true);
        Checks.group(x, "0>0:100");
        Checks.group(x, "0>0:500", 2, 1, 0);
        Checks.group(x, "0>0:5000", 0, 1, 1);
        x.pass(1);
        String[] kinds = {"done", "waiting", "rejected"};
        for (int group = 0; group < 3; group++) {
            due(24, "place of a group that is " + kinds[group], x.place(group), Checks.NONE);
            due(25, "nextSpan of a group that is " + kinds[group], x.nextSpan(group), Checks.NONE);
            due(26, "nextRate of a group that is " + kinds[group], x.nextRate(group, 0), 0);
            due(26, "nextRate of no flow", x.nextRate(group, 1), Checks.BAD_INDEX);
        }
        x.pass(1);
        due(24, "place(1) when it has arrived", x.place(1), 0);
        due(25, "nextSpan(1) when it has arrived", x.nextSpan(1), 5);
        for (int far : Checks.FAR_OFF) {
            due(24, "place(" + far + ")", x.place(far), Checks.BAD_INDEX);
            due(25, "nextSpan(" + far + ")", x.nextSpan(far), Checks.BAD_INDEX);
            due(26, "nextRate(" + far + ", 0)", x.nextRate(far, 0), Checks.BAD_INDEX);
            due(26, "nextRate(1, " + far + ")", x.nextRate(1, far), Checks.BAD_INDEX);
            due(27, "spare(" + far + ")", x.spare(far), Checks.BAD_INDEX);
        }
        due(24, "place(3)", x.place(3), Checks.BAD_INDEX);
        due(25, "nextSpan(3)", x.nextSpan(3), Checks.BAD_INDEX);
        due(26, "nextRate(3, 0)", x.nextRate(3, 0), Checks.BAD_INDEX);
        due(27, "spare(16)", x.spare(16), Checks.BAD_INDEX);
    }

    private static void nextSpan() {
        CoflowSimulator x = new CoflowSimulator();
        Checks.group(x, "0>0:90");
        Checks.group(x, "0>1:95,2>2:20");
        Checks.group(x, "0>3:300");
        Checks.group(x, "5>5:5000");
        due(25, "nextSpan(0)", x.nextSpan(0), 1);
        due(25, "nextSpan(1) with what the first leaves", x.nextSpan(1), 10);
        due(25, "nextSpan(2) with nothing left", x.nextSpan(2), Checks.NONE);
        due(25, "nextSpan(3) elsewhere", x.nextSpan(3), 50);
        x.setRules(true, true);
        Checks.group(x, "7>7:300", 0, 1, 20);
        due(25, "nextSpan(4) with a deadline is the span", x.nextSpan(4), 3);
        due(26, "nextRate(4, 0) is shared up", x.nextRate(4, 0), 100);
    }

    private static void nextRate() {
        CoflowSimulator x = new CoflowSimulator();
        Checks.group(x, "0>1:250,0>2:150,3>1:40");
        due(26, "nextRate(0, 0)", x.nextRate(0, 0), 70);
        due(26, "nextRate(0, 1)", x.nextRate(0, 1), 30);
        due(26, "nextRate(0, 2)", x.nextRate(0, 2), 30);
        x.setRules(false, false);
        due(26, "just rate", x.nextRate(0, 0), 50);
        due(26, "just rate", x.nextRate(0, 1), 30);
        due(26, "just rate", x.nextRate(0, 2), 8);
        x.setPolicy(1);
        Checks.group(x, "3>3:60,0>4:60");
        due(26, "rate in what is left", x.nextRate(1, 0), 20);
        due(26, "rate in what is left", x.nextRate(1, 1), 20);
        Checks.group(x, "0>5:60,6>6:60");
        due(26, "nothing is left for one flow", x.nextRate(2, 0), 0);
        due(26, "so the other gets nothing", x.nextRate(2, 1), 0);
        x.setRules(true, false);
        due(26, "but for what is spare", x.nextRate(2, 1), 60);

        CoflowSimulator y = new CoflowSimulator();
        y.setPolicy(1);
        Checks.group(y, "0>0:200,1>1:500");
        Checks.group(y, "0>2:50,2>2:70");
        due(26, "40, and what the second group leaves", y.nextRate(0, 0), 75);
        due(26, "100", y.nextRate(0, 1), 100);
        due(26, "half of 50", y.nextRate(1, 0), 25);
        due(26, "half of 70, and then the rest of it", y.nextRate(1, 1), 70);
        y.setRules(false, false);
        due(26, "first, without sharing", y.nextRate(0, 0), 40);
        due(26, "second, without sharing", y.nextRate(1, 0), 25);
        due(26, "second, without sharing", y.nextRate(1, 1), 35);
        y.setCapacity(1, 0);
        due(26, "without a span and without sharing", y.nextRate(0, 0), 0);
        y.setRules(true, false);
        due(26, "what is spare goes by the order", y.nextRate(0, 0), 75);
        due(26, "the just rate of the next group comes before", y.nextRate(1, 0), 25);
        due(26, "no capacity", y.nextRate(0, 1), 0);
        y.setCapacity(1, 100);
        y.setCapacity(0, 40);
        due(26, "the port is used up", y.nextRate(1, 0), 0);
        due(26, "a group without a span gets what is spare", y.nextRate(1, 1), 70);
        y.pass(500);
        due(26, "a flow that is done", y.nextRate(0, 0), 0);
    }

    private static void nextRateWithDeadlines() {
        CoflowSimulator x = new CoflowSimulator();
        x.setRules(false, true);
        Checks.group(x, "0>0:301", 0, 1, 10);
        Checks.group(x, "0>1:50");
        due(26, "301 in 10 ticks", x.nextRate(0, 0), 31);
        due(26, "what is left", x.nextRate(1, 0), 50);
        due(27, "spare(0)", x.spare(0), 19);
        x.setRules(false, false);
        due(26, "just rate in what the other leaves, with deadlines off", x.nextRate(0, 0), 43);
        x.setRules(true, true);
        due(26, "what is left is shared", x.nextRate(0, 0), 50);
        x.setRules(false, true);
        Checks.setAll(x, 0);
        x.pass(6);
        Checks.setAll(x, 100);
        due(26, "301 in 4 ticks: D is not greater than G", x.nextRate(0, 0), 76);
        Checks.setAll(x, 0);
        x.pass(3);
        Checks.setAll(x, 100);
        due(26, "1 tick is left: just rate", x.nextRate(0, 0), 76);
        Checks.setAll(x, 0);
        x.pass(30);
        Checks.setAll(x, 100);
        due(26, "behind the deadline: just rate", x.nextRate(0, 0), 76);
        x.setCapacity(0, 0);
        due(26, "no span", x.nextRate(0, 0), 0);
    }

    private static void spare() {
        CoflowSimulator x = new CoflowSimulator();
        x.setCapacity(15, 7);
        due(27, "spare(15) without groups", x.spare(15), 7);
        Checks.group(x, "0>1:250,0>2:150,3>1:40");
        int[] shared = {0, 100, 100, 70, 100, 100, 100, 100, 100, 0, 70, 100, 100, 100, 100, 7};
        int[] just = {20, 100, 100, 92, 100, 100, 100, 100, 100, 42, 70, 100, 100, 100, 100, 7};
        for (int port = 0; port < 16; port++) {
            due(27, "spare(" + port + ")", x.spare(port), shared[port]);
        }
        x.setRules(false, false);
        for (int port = 0; port < 16; port++) {
            due(27, "spare(" + port + ") without sharing", x.spare(port), just[port]);
        }
        x.pass(10);
        due(27, "spare(0) when all is done", x.spare(0), 100);
    }

    private static void nothingIsChanged() {
        CoflowSimulator x = new CoflowSimulator();
        Checks.group(x, "0>1:250,0>2:150,3>1:40");
        Checks.group(x, "0>1:2500");
        x.pass(1);
        long before = x.digest();
        for (int i = 0; i < 2; i++) {
            x.place(i);
            due(24, "digest() behind place", x.digest(), before);
            x.nextSpan(i);
            due(25, "digest() behind nextSpan", x.digest(), before);
            x.nextRate(i, 0);
            due(26, "digest() behind nextRate", x.digest(), before);
            x.spare(i);
            due(27, "digest() behind spare", x.digest(), before);
        }
        x.setPolicy(1);
        x.place(0);
        x.nextRate(0, 0);
        x.undo();
        due(24, "undo() takes back the policy", x.digest(), before);
    }
}
