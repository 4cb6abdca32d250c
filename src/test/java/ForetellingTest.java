/** Promises 28 to 33: foretelling. */
public final class ForetellingTest {
    private static final Checks CHECKS = new Checks();

    private static void due(int promise, String what, long got, long want) {
        CHECKS.due(promise, what, got, want);
    }

    public static void main(String[] args) {
        outlook();
        outlookLimit();
        total();
        totalLimit();
        bestPolicy();
        bestOrder();
        eachOrderIsBestOnce();
        bestOrderOfNone();
        bestOrderErrors();
        bestOrderIsFoundAnew();
        bound();
        nothingIsChanged();
        CHECKS.finish();
    }

    private static void outlook() {
        CoflowSimulator x = new CoflowSimulator();
        due(28, "outlook(0)", x.outlook(0), Checks.BAD_INDEX);
        x.setRules(true, true);
        Checks.group(x, "0>0:250");
        Checks.group(x, "0>1:100", 1, 1, 0);
        Checks.group(x, "0>1:5000", 0, 1, 1);
        Checks.group(x, "5>5:100");
        for (int far : Checks.FAR_OFF) {
            due(28, "outlook(" + far + ")", x.outlook(far), Checks.BAD_INDEX);
        }
        due(28, "outlook(4)", x.outlook(4), Checks.BAD_INDEX);
        due(28, "outlook(0), which is preempted", x.outlook(0), 4);
        due(28, "outlook(1), which waits", x.outlook(1), 2);
        due(28, "outlook(2), which is rejected", x.outlook(2), Checks.NONE);
        due(28, "outlook(3)", x.outlook(3), 1);
        x.pass(2);
        due(28, "outlook(3), which is done", x.outlook(3), 1);
        due(28, "outlook(0)", x.outlook(0), 4);
        x.setCapacity(8, 0);
        due(28, "outlook(0) without capacity", x.outlook(0), Checks.NONE);
        due(28, "outlook(1), which is done", x.outlook(1), 2);
    }

    private static void outlookLimit() {
        CoflowSimulator x = new CoflowSimulator();
        Checks.group(x, "0>0:100000");
        Checks.group(x, "1>1:100000,1>2:1");
        Checks.group(x, "2>5:50", 999, 1, 0);
        Checks.group(x, "2>5:50", 1000, 1, 0);
        due(28, "outlook(0) in 1000 ticks", x.outlook(0), 1000);
        due(28, "outlook(1) not in 1000 ticks", x.outlook(1), Checks.NONE);
        due(28, "outlook(2) in 1000 ticks", x.outlook(2), 1000);
        due(28, "outlook(3) not in 1000 ticks", x.outlook(3), Checks.NONE);
        x.pass(1);
        due(28, "outlook(1) one tick later", x.outlook(1), 1001);
        due(28, "outlook(3) one tick later", x.outlook(3), 1001);
        Checks.setAll(x, 0);
        due(28, "outlook(3) without capacity", x.outlook(3), Checks.NONE);
        x.setCapacity(2, 100);
        x.setCapacity(13, 100);
        due(28, "outlook(3) when nothing else can be sent", x.outlook(3), 1001);
    }

    private static void total() {
        CoflowSimulator x = new CoflowSimulator();
        for (int far : Checks.FAR_OFF) {
            due(29, "total(" + far + ")", x.total(far), Checks.BAD_VALUE);
        }
        due(29, "total(6)", x.total(6), Checks.BAD_VALUE);
        for (int policy = 0; policy < 6; policy++) {
            due(29, "total without groups", x.total(policy), 0);
        }
        Checks.group(x, "0>0:300");
        Checks.group(x, "0>1:50");
        due(29, "total(0)", x.total(0), 5);
        due(29, "total(1)", x.total(1), 7);
        due(29, "total(0) whatever the policy is", x.setPolicy(1) + x.total(0), 5);
        CoflowSimulator weighted = new CoflowSimulator();
        Checks.group(weighted, "0>0:200", 0, 1, 0);
        Checks.group(weighted, "0>0:300", 0, 2, 0);
        due(29, "total(0) by spans", weighted.total(0), 2 + 5);
        due(29, "total(5) by weights", weighted.total(5), 3 + 5);
        x.setRules(true, true);
        Checks.group(x, "0>1:5000", 0, 1, 1);
        due(29, "total(0) with a rejected group", x.total(0), 5);
        Checks.group(x, "5>5:150", 10, 1, 0);
        due(29, "total(0) with a waiting group", x.total(0), 7);
        x.pass(100);
        due(29, "total(0) when all are done", x.total(0), 9);
        due(29, "total(3) when all are done", x.total(3), 9);
        Checks.group(x, "5>5:150", 0, 1, 5);
        x.setRules(false, true);
        due(29, "total(3) keeps the rules: the deadline is used up", x.total(3), 14);
        x.setRules(false, false);
        due(29, "total(3) with deadlines off", x.total(3), 11);
    }

    private static void totalLimit() {
        CoflowSimulator x = new CoflowSimulator();
        Checks.group(x, "0>0:30000");
        due(29, "total(0) in 300 ticks", x.total(0), 300);
        Checks.group(x, "1>1:30000,1>2:1");
        due(29, "total(0) not in 300 ticks", x.total(0), Checks.NONE);
        x.pass(1);
        due(29, "total(0) one tick later", x.total(0), 601);

        CoflowSimulator y = new CoflowSimulator();
        Checks.group(y, "0>0:100", 299, 1, 0);
        due(29, "total(0) of a group that waits long", y.total(0), 1);
        Checks.group(y, "0>0:100", 300, 1, 0);
        due(29, "total(0) of a group that waits too long", y.total(0), Checks.NONE);
        due(30, "bestPolicy()", y.bestPolicy(), Checks.NONE);
        due(31, "bestOrder()", y.bestOrder(), Checks.NONE);
        y.pass(1);
        due(29, "total(0) one tick later", y.total(0), 2);

        CoflowSimulator z = new CoflowSimulator();
        z.setRules(false, false);
        Checks.group(z, "0>0:1,0>0:1");
        z.setCapacity(0, 1);
        due(29, "total(0) of a group without a span", z.total(0), Checks.NONE);
        z.setRules(true, false);
        due(29, "total(0) of a group without a span, with sharing", z.total(0), 2);
        z.setCapacity(0, 0);
        due(29, "total(0) without capacity", z.total(0), Checks.NONE);
        z.setRules(false, false);
        z.setCapacity(0, 1);
        Checks.group(z, "1>1:1", 5, 1, 0);
        due(28, "outlook(1) beside a group without a span", z.outlook(1), 6);
    }

    private static void bestPolicy() {
        CoflowSimulator x = new CoflowSimulator();
        due(30, "bestPolicy() without groups", x.bestPolicy(), 0);
        x.setPolicy(4);
        Checks.group(x, "0>0:300");
        due(30, "bestPolicy() of equal ones", x.bestPolicy(), 0);
        Checks.group(x, "0>1:50");
        due(30, "bestPolicy()", x.bestPolicy(), 0);

        CoflowSimulator y = new CoflowSimulator();
        Checks.group(y, "0>0:200", 0, 1, 0);
        Checks.group(y, "0>1:150,1>2:150,2>3:150", 0, 1, 0);
        Checks.group(y, "1>4:100", 0, 1, 0);
        int best = Checks.NONE;
        int least = Integer.MAX_VALUE;
        for (int policy = 0; policy < 6; policy++) {
            if (y.total(policy) < least) {
                least = y.total(policy);
                best = policy;
            }
        }
        due(30, "bestPolicy() by the totals", y.bestPolicy(), best);

        CoflowSimulator z = new CoflowSimulator();
        Checks.group(z, "0>0:200,1>1:200,2>2:200,3>3:200");
        Checks.group(z, "0>0:300");
        Checks.group(z, "1>1:300");
        Checks.group(z, "2>2:300");
        Checks.group(z, "3>3:300");
        due(29, "total(0): the wide group first", z.total(0), 22);
        due(29, "total(2): the wide group last", z.total(2), 17);
        due(29, "total(3): the wide group last", z.total(3), 17);
        due(30, "bestPolicy() is not 0", z.bestPolicy(), 2);

        CoflowSimulator outdone = new CoflowSimulator();
        Checks.group(outdone, "1>0:400,0>1:300");
        Checks.group(outdone, "0>1:200,0>0:100");
        Checks.group(outdone, "1>0:400,0>1:100");
        best(outdone, "that no policy finds", 18, 2, 1, 0);
        due(30, "bestPolicy() is a policy", outdone.bestPolicy(), 0);
        due(29, "total(0)", outdone.total(0), 19);
        z.setCapacity(0, 0);
        due(30, "bestPolicy() without totals", z.bestPolicy(), Checks.NONE);
    }

    private static void best(CoflowSimulator x, String what, int total, int... groups) {
        due(31, "bestOrder() " + what, x.bestOrder(), total);
        for (int i = 0; i < groups.length; i++) {
            due(32, "bestOrderAt(" + i + ") " + what, x.bestOrderAt(i), groups[i]);
        }
        due(32, "bestOrderAt beyond it " + what, x.bestOrderAt(groups.length), Checks.BAD_INDEX);
        due(31, "bestOrder() again " + what, x.bestOrder(), total);
    }

    private static void bestOrder() {
        CoflowSimulator x = new CoflowSimulator();
        Checks.group(x, "0>0:300");
        best(x, "of one group", 3, 0);
        Checks.group(x, "0>1:50");
        best(x, "of two groups", 5, 1, 0);
        Checks.group(x, "0>2:100");
        best(x, "of three groups", 8, 1, 2, 0);
        Checks.group(x, "0>2:20", 1, 1, 0);
        best(x, "of four groups, one of them waiting", 9, 1, 2, 3, 0);
        x.pass(1);
        best(x, "when one group is done", 9, 2, 3, 0);
        x.pass(1);
        best(x, "when three groups are done", 9, 0);
        x.pass(100);
        due(31, "bestOrder() when all are done", x.bestOrder(), Checks.BAD_STATE);

        CoflowSimulator w = new CoflowSimulator();
        Checks.group(w, "0>0:400");
        Checks.group(w, "0>0:300");
        Checks.group(w, "0>0:200");
        Checks.group(w, "0>0:100");
        best(w, "that is the last one", 1 + 3 + 6 + 10, 3, 2, 1, 0);

        CoflowSimulator y = new CoflowSimulator();
        Checks.group(y, "0>0:200");
        Checks.group(y, "0>0:200");
        Checks.group(y, "0>0:200");
        best(y, "of equal groups", 12, 0, 1, 2);
        CoflowSimulator z = new CoflowSimulator();
        z.setRules(false, true);
        Checks.group(z, "0>0:300", 0, 1, 100);
        Checks.group(z, "0>0:100");
        Checks.group(z, "0>0:9999", 0, 1, 1);
        best(z, "with deadlines off, and a rejected group", 5, 1, 0);
        due(29, "total(0) with deadlines on", z.total(0), 102);
    }

    /** For each order of four groups, their sizes are such that this order alone is the best. */
    private static void eachOrderIsBestOnce() {
        for (int code = 0; code < 256; code++) {
            int[] order = {code & 3, code >> 2 & 3, code >> 4 & 3, code >> 6};
            int[] size = new int[4];
            for (int i = 0; i < 4; i++) {
                size[order[i]] = 100 * (i + 1);
            }
            if (size[0] == 0 || size[1] == 0 || size[2] == 0 || size[3] == 0) {
                continue;
            }
            CoflowSimulator x = new CoflowSimulator();
            Checks.group(x, "7>7:100");
            for (int i = 0; i < 4; i++) {
                Checks.group(x, "0>0:" + size[i]);
            }
            x.setCapacity(0, 0);
            x.pass(1);
            x.setCapacity(0, 100);
            best(x, "of sizes by " + code, 1 + 4 + 1 + 3 + 6 + 10, order[0] + 1, order[1] + 1, order[2] + 1, order[3] + 1);
            due(30, "bestPolicy() behind bestOrder()", x.bestPolicy(), 0);
        }
    }

    private static void bestOrderOfNone() {
        CoflowSimulator x = new CoflowSimulator();
        Checks.group(x, "0>0:100000");
        Checks.group(x, "1>0:1");
        Checks.group(x, "1>1:3", 4, 1, 0);
        best(x, "that is too long", Checks.NONE, 0, 1, 2);
        x.setCapacity(9, 0);
        best(x, "without capacity", Checks.NONE, 0, 1, 2);
    }

    private static void bestOrderErrors() {
        CoflowSimulator x = new CoflowSimulator();
        due(31, "bestOrder() without groups", x.bestOrder(), Checks.BAD_STATE);
        due(32, "bestOrderAt(0) without groups", x.bestOrderAt(0), Checks.BAD_INDEX);
        for (int i = 0; i < 4; i++) {
            Checks.group(x, "0>0:100");
        }
        best(x, "of four equal groups", 10, 0, 1, 2, 3);
        Checks.group(x, "0>0:100", 3, 1, 0);
        due(31, "bestOrder() of five groups", x.bestOrder(), Checks.BAD_STATE);
        for (int i = 0; i < 5; i++) {
            due(32, "bestOrderAt(" + i + ") of five groups", x.bestOrderAt(i), Checks.BAD_STATE);
        }
        due(32, "bestOrderAt(5) of five groups", x.bestOrderAt(5), Checks.BAD_INDEX);
        for (int far : Checks.FAR_OFF) {
            due(32, "bestOrderAt(" + far + ")", x.bestOrderAt(far), Checks.BAD_INDEX);
        }
        x.pass(1);
        due(31, "bestOrder() when one of five is done", x.bestOrder(), 1 + 2 + 3 + 4 + 2);
    }

    /** The answer is kept between questions; no change may be missed. */
    private static void bestOrderIsFoundAnew() {
        CoflowSimulator x = new CoflowSimulator();
        Checks.group(x, "0>0:300");
        Checks.group(x, "0>1:50");
        best(x, "at first", 5, 1, 0);
        x.setCapacity(0, 10);
        best(x, "with less capacity", 40, 1, 0);
        x.undo();
        best(x, "behind undo", 5, 1, 0);
        x.setCapacity(9, 1);
        best(x, "with a slow receiver", 54, 1, 0);
        x.setRules(false, false);
        due(31, "bestOrder() without sharing", x.bestOrder(), 54);
        x.pass(1);
        due(31, "bestOrder() behind a tick in the other order", x.bestOrder(), 55);
        Checks.group(x, "7>7:1");
        due(31, "bestOrder() with another group", x.bestOrder(), 56);
    }

    private static void bound() {
        CoflowSimulator x = new CoflowSimulator();
        due(33, "bound() without groups", x.bound(), 0);
        x.flow(0, 0, 100000);
        due(33, "bound() with a draft alone", x.bound(), 0);
        x.dropDraft();
        x.setRules(true, true);
        Checks.group(x, "0>0:200,0>1:100");
        due(33, "bound()", x.bound(), 3);
        Checks.group(x, "2>1:201", 50, 1, 0);
        due(33, "bound() by a receiver, rounded up, with a waiting group", x.bound(), 4);
        Checks.group(x, "2>1:5000", 0, 1, 1);
        due(33, "bound() without the rejected group", x.bound(), 4);
        x.setCapacity(7, 0);
        due(33, "bound() with an unused port without capacity", x.bound(), 4);
        x.setCapacity(2, 3);
        due(33, "bound() with another capacity", x.bound(), 67);
        x.setCapacity(2, 0);
        due(33, "bound() without capacity", x.bound(), Checks.NONE);
        CoflowSimulator one = new CoflowSimulator();
        Checks.group(one, "0>0:1");
        due(33, "bound() of a unit", one.bound(), 1);
        one.setCapacity(8, 0);
        due(33, "bound() of a unit without capacity", one.bound(), Checks.NONE);
        x.setCapacity(2, 1000);
        x.setRules(false, true);
        x.pass(1);
        due(33, "bound() of what is left", x.bound(), 3);
        x.pass(5);
        x.setCapacity(0, 0);
        due(33, "bound() with a port that done flows used", x.bound(), 3);
        x.pass(100);
        due(33, "bound() when all is done", x.bound(), 0);
        x.setCapacity(2, 0);
        due(33, "bound() when all is done, without capacity", x.bound(), 0);

        CoflowSimulator y = new CoflowSimulator();
        Checks.group(y, "0>0:50,1>1:500");
        y.pass(1);
        y.setCapacity(0, 0);
        due(33, "bound() with a port that a done flow of an active group used", y.bound(), 4);
    }

    private static void nothingIsChanged() {
        CoflowSimulator x = new CoflowSimulator();
        Checks.group(x, "0>1:250,0>2:150,3>1:40", 0, 3, 7);
        Checks.group(x, "0>1:2500");
        x.pass(1);
        x.setRules(false, true);
        long before = x.digest();
        x.outlook(0);
        due(28, "digest() behind outlook", x.digest(), before);
        x.total(3);
        due(29, "digest() behind total", x.digest(), before);
        x.bestPolicy();
        due(30, "digest() behind bestPolicy", x.digest(), before);
        x.bestOrder();
        due(31, "digest() behind bestOrder", x.digest(), before);
        x.bestOrderAt(1);
        due(32, "digest() behind bestOrderAt", x.digest(), before);
        x.bound();
        due(33, "digest() behind bound", x.digest(), before);
        x.setPolicy(2);
        x.undo();
        due(28, "none of them is undoable", x.digest(), before);
    }
}
