import java.util.LinkedHashMap;
import java.util.Map;
import java.util.function.Consumer;
import java.util.function.ToLongFunction;

/** What the description says of errors, for every method in several states. */
final class RefusalEdges {
    private static final int[] BOTH_ENDS = {Integer.MIN_VALUE, Integer.MAX_VALUE};
    private final Edges edges;

    RefusalEdges(Edges edges) {
        this.edges = edges;
    }

    void run() {
        none();
        codes();
        orderOfCodes();
        noneOnlyWithoutError();
        nothingIsChanged();
    }

    /** Groups in all states, a draft, a text, events, a group that was first, and six saved states. */
    private static void busy(CoflowSimulator x) {
        x.setRules(true, true);
        Checks.group(x, "0>0:100");
        Checks.group(x, "0>0:900,1>1:500", 0, 5, 30);
        Checks.group(x, "0>0:101", 0, 1, 1);
        Checks.group(x, "1>1:300", 7, 1, 0);
        x.setPolicy(2);
        x.pass(2);
        x.flow(4, 5, 6);
        Checks.write(x, "2>2:70");
    }

    /** Nothing has room any more: the text, the draft, the set of groups, the events and the saved states. */
    private static void full(CoflowSimulator x) {
        Checks.group(x, "0>0:100000");
        Checks.group(x, "0>0:90000");
        x.setPolicy(1);
        x.pass(1);
        for (int i = 1; i <= 21; i++) {
            x.setPolicy(i % 2 == 0 ? 1 : 0);
            x.pass(1);
        }
        for (int i = 2; i < 12; i++) {
            x.flow(i % 8, i % 8, 100 * i);
            x.addGroup(i, i, 0);
        }
        for (int i = 0; i < 16; i++) {
            x.flow(0, 1, i + 1);
        }
        Checks.write(x, " ".repeat(115) + "0>1:5");
    }

    private void none() {
        CoflowSimulator x = edges.says(0, "NONE (-1) stands for \"there is none\".");
        edges.due("NONE", CoflowSimulator.NONE, -1);
        Checks.group(x, "0>0:100");
        edges.due("there is no end", x.end(0), -1);
        Checks.write(x, "0>0:1");
        edges.due("there is no fault", x.textFault(), -1);
        x.pass(1);
        edges.due("there is no place", x.place(0), -1);
        edges.due("there is no span", x.loneSpan(0), -1);
    }

    private void codes() {
        CoflowSimulator x = edges.says(0, "The error codes are BAD_INDEX (-2): there is no such port, group, flow or "
                + "event; ");
        Checks.group(x, "0>0:100");
        edges.due("no port", x.setCapacity(16, 5), -2);
        edges.due("no port", x.spare(16), -2);
        edges.due("no port", x.moved(-1), -2);
        edges.due("no port", x.flow(8, 0, 1), -2);
        edges.due("no group", x.state(1), -2);
        edges.due("no flow", x.flowPart(0, 1, 0), -2);
        edges.due("no flow", x.nextRate(0, 1), -2);
        edges.due("no event", x.event(0, 0), -2);

        x = edges.says(0, "BAD_VALUE (-3): another argument is out of its range; ");
        Checks.group(x, "0>0:100");
        edges.due("type(256)", x.type(256), -3);
        edges.due("flow(0, 0, 0)", x.flow(0, 0, 0), -3);
        edges.due("addGroup(0, 0, 0)", x.addGroup(0, 0, 0), -3);
        edges.due("setCapacity(0, 1001)", x.setCapacity(0, 1001), -3);
        edges.due("setPolicy(6)", x.setPolicy(6), -3);
        edges.due("pass(0)", x.pass(0), -3);
        edges.due("total(6)", x.total(6), -3);
        edges.due("flowPart(0, 0, 5)", x.flowPart(0, 0, 5), -3);
        x.pass(1);
        edges.due("event(0, 3)", x.event(0, 3), -3);

        x = edges.says(0, "BAD_STATE (-4): the call is not possible, as told; ");
        edges.due("read() of an empty text", x.read(), -4);
        edges.due("addGroup of an empty draft", x.addGroup(0, 1, 0), -4);
        edges.due("undo() of a new object", x.undo(), -4);
        edges.due("bestOrder() without groups", x.bestOrder(), -4);
        for (int i = 0; i < 5; i++) {
            Checks.group(x, "0>0:100");
        }
        edges.due("bestOrderAt(0) of five groups", x.bestOrderAt(0), -4);

        x = edges.says(0, "FULL (-5): there is no room.");
        full(x);
        edges.due("type(32)", x.type(32), -5);
        edges.due("flow(0, 0, 1)", x.flow(0, 0, 1), -5);
        edges.due("addGroup(0, 1, 0)", x.addGroup(0, 1, 0), -5);
    }

    private void orderOfCodes() {
        CoflowSimulator x = edges.says(0, "If several apply to a call, the first one in this order is returned; ");
        full(x);
        edges.due("type(256): BAD_VALUE before FULL", x.type(256), Edges.BAD_VALUE);
        edges.due("flow(8, 0, 0): BAD_INDEX before BAD_VALUE and FULL", x.flow(8, 0, 0), Edges.BAD_INDEX);
        edges.due("flow(0, 8, 100001): BAD_INDEX before BAD_VALUE and FULL", x.flow(0, 8, 100001), Edges.BAD_INDEX);
        edges.due("flow(8, 0, 1): BAD_INDEX before FULL", x.flow(8, 0, 1), Edges.BAD_INDEX);
        edges.due("flow(0, 0, 0): BAD_VALUE before FULL", x.flow(0, 0, 0), Edges.BAD_VALUE);
        edges.due("addGroup(0, 0, 0): BAD_VALUE before FULL", x.addGroup(0, 0, 0), Edges.BAD_VALUE);
        edges.due("setCapacity(16, 1001): BAD_INDEX before BAD_VALUE", x.setCapacity(16, 1001), Edges.BAD_INDEX);
        edges.due("flowPart(12, 0, 5): BAD_INDEX before BAD_VALUE", x.flowPart(12, 0, 5), Edges.BAD_INDEX);
        edges.due("flowPart(0, 1, 5): BAD_INDEX before BAD_VALUE", x.flowPart(0, 1, 5), Edges.BAD_INDEX);
        edges.due("event(20, 3): BAD_INDEX before BAD_VALUE", x.event(20, 3), Edges.BAD_INDEX);
        edges.due("bestOrderAt(12): BAD_INDEX before BAD_STATE", x.bestOrderAt(12), Edges.BAD_INDEX);
        edges.due("bestOrderAt(-1): BAD_INDEX before BAD_STATE", x.bestOrderAt(-1), Edges.BAD_INDEX);
        edges.due("bestOrderAt(11): BAD_STATE alone", x.bestOrderAt(11), Edges.BAD_STATE);
        edges.due("read() without room: BAD_STATE, as told", x.read(), Edges.BAD_STATE);
        x.dropDraft();
        edges.due("addGroup(0, 0, 0): BAD_VALUE before BAD_STATE and FULL", x.addGroup(0, 0, 0), Edges.BAD_VALUE);
        edges.due("addGroup(0, 1, 0): BAD_STATE before FULL", x.addGroup(0, 1, 0), Edges.BAD_STATE);
        CoflowSimulator y = edges.object();
        edges.due("addGroup(0, 0, 0): BAD_VALUE before BAD_STATE", y.addGroup(0, 0, 0), Edges.BAD_VALUE);
        edges.due("bestOrderAt(0): BAD_INDEX before BAD_STATE", y.bestOrderAt(0), Edges.BAD_INDEX);
    }

    private void noneOnlyWithoutError() {
        CoflowSimulator x = edges.says(0, "NONE is returned only if no error applies.");
        Checks.group(x, "0>0:30001");
        edges.due("total(0)", x.total(0), Edges.NONE);
        edges.due("total(6)", x.total(6), Edges.BAD_VALUE);
        edges.due("bestOrder()", x.bestOrder(), Edges.NONE);
        edges.due("end(0)", x.end(0), Edges.NONE);
        edges.due("end(1)", x.end(1), Edges.BAD_INDEX);
        x.setCapacity(0, 0);
        edges.due("outlook(0)", x.outlook(0), Edges.NONE);
        edges.due("outlook(1)", x.outlook(1), Edges.BAD_INDEX);
        edges.due("loneSpan(0)", x.loneSpan(0), Edges.NONE);
        edges.due("loneSpan(1)", x.loneSpan(1), Edges.BAD_INDEX);
        for (int i = 0; i < 4; i++) {
            Checks.group(x, "0>0:1");
        }
        edges.due("bestOrder() of five groups without a total", x.bestOrder(), Edges.BAD_STATE);
    }

    private static final Map<String, ToLongFunction<CoflowSimulator>> CALLS = new LinkedHashMap<>();
    private static final Map<String, Integer> CODES = new LinkedHashMap<>();

    private static void wrong(String call, ToLongFunction<CoflowSimulator> function, int code) {
        CALLS.put(call, function);
        CODES.put(call, code);
    }

    /** Calls that are refused in every state. */
    private static void listWrongCalls() {
        int[] noPorts = {-1, 16, BOTH_ENDS[0], BOTH_ENDS[1]};
        int[] noGroups = {-1, 12, BOTH_ENDS[0], BOTH_ENDS[1]};
        for (int port : noPorts) {
            wrong("setCapacity(" + port + ", 5)", x -> x.setCapacity(port, 5), Edges.BAD_INDEX);
            wrong("spare(" + port + ")", x -> x.spare(port), Edges.BAD_INDEX);
            wrong("moved(" + port + ")", x -> x.moved(port), Edges.BAD_INDEX);
        }
        for (int group : noGroups) {
            wrong("state(" + group + ")", x -> x.state(group), Edges.BAD_INDEX);
            wrong("arrival(" + group + ")", x -> x.arrival(group), Edges.BAD_INDEX);
            wrong("end(" + group + ")", x -> x.end(group), Edges.BAD_INDEX);
            wrong("flowCount(" + group + ")", x -> x.flowCount(group), Edges.BAD_INDEX);
            wrong("flowPart(" + group + ", 0, 0)", x -> x.flowPart(group, 0, 0), Edges.BAD_INDEX);
            wrong("rest(" + group + ")", x -> x.rest(group), Edges.BAD_INDEX);
            wrong("level(" + group + ")", x -> x.level(group), Edges.BAD_INDEX);
            wrong("loneSpan(" + group + ")", x -> x.loneSpan(group), Edges.BAD_INDEX);
            wrong("place(" + group + ")", x -> x.place(group), Edges.BAD_INDEX);
            wrong("nextSpan(" + group + ")", x -> x.nextSpan(group), Edges.BAD_INDEX);
            wrong("nextRate(" + group + ", 0)", x -> x.nextRate(group, 0), Edges.BAD_INDEX);
            wrong("outlook(" + group + ")", x -> x.outlook(group), Edges.BAD_INDEX);
            wrong("bestOrderAt(" + group + ")", x -> x.bestOrderAt(group), Edges.BAD_INDEX);
        }
        for (int flow : new int[] {-1, 16, BOTH_ENDS[0], BOTH_ENDS[1]}) {
            wrong("flowPart(0, " + flow + ", 0)", x -> x.flowPart(0, flow, 0), Edges.BAD_INDEX);
            wrong("nextRate(0, " + flow + ")", x -> x.nextRate(0, flow), Edges.BAD_INDEX);
        }
        for (int event : new int[] {-1, 20, BOTH_ENDS[0], BOTH_ENDS[1]}) {
            wrong("event(" + event + ", 0)", x -> x.event(event, 0), Edges.BAD_INDEX);
        }
        listWrongChanges();
    }

    private static void listWrongChanges() {
        for (int port : new int[] {-1, 8, BOTH_ENDS[0], BOTH_ENDS[1]}) {
            wrong("flow(" + port + ", 0, 1)", x -> x.flow(port, 0, 1), Edges.BAD_INDEX);
            wrong("flow(0, " + port + ", 1)", x -> x.flow(0, port, 1), Edges.BAD_INDEX);
        }
        for (int code : new int[] {-1, 256, BOTH_ENDS[0], BOTH_ENDS[1]}) {
            wrong("type(" + code + ")", x -> x.type(code), Edges.BAD_VALUE);
        }
        for (int size : new int[] {0, -1, 100001, BOTH_ENDS[0], BOTH_ENDS[1]}) {
            wrong("flow(0, 0, " + size + ")", x -> x.flow(0, 0, size), Edges.BAD_VALUE);
        }
        for (int delay : new int[] {-1, 1001, BOTH_ENDS[0], BOTH_ENDS[1]}) {
            wrong("addGroup(" + delay + ", 1, 0)", x -> x.addGroup(delay, 1, 0), Edges.BAD_VALUE);
        }
        for (int weight : new int[] {0, -1, 101, BOTH_ENDS[0], BOTH_ENDS[1]}) {
            wrong("addGroup(0, " + weight + ", 0)", x -> x.addGroup(0, weight, 0), Edges.BAD_VALUE);
        }
        for (int deadline : new int[] {-1, 10001, BOTH_ENDS[0], BOTH_ENDS[1]}) {
            wrong("addGroup(0, 1, " + deadline + ")", x -> x.addGroup(0, 1, deadline), Edges.BAD_VALUE);
        }
        for (int capacity : new int[] {-1, 1001, BOTH_ENDS[0], BOTH_ENDS[1]}) {
            wrong("setCapacity(0, " + capacity + ")", x -> x.setCapacity(0, capacity), Edges.BAD_VALUE);
        }
        for (int policy : new int[] {-1, 6, BOTH_ENDS[0], BOTH_ENDS[1]}) {
            wrong("setPolicy(" + policy + ")", x -> x.setPolicy(policy), Edges.BAD_VALUE);
            wrong("total(" + policy + ")", x -> x.total(policy), Edges.BAD_VALUE);
        }
        for (int many : new int[] {0, -1, 501, BOTH_ENDS[0], BOTH_ENDS[1]}) {
            wrong("pass(" + many + ")", x -> x.pass(many), Edges.BAD_VALUE);
        }
    }

    private void nothingIsChanged() {
        edges.says(0, "A call that returns an error changes nothing.");
        listWrongCalls();
        Map<String, Consumer<CoflowSimulator>> states = new LinkedHashMap<>();
        states.put("a new object", x -> { });
        states.put("a busy object", RefusalEdges::busy);
        states.put("a full object", RefusalEdges::full);
        states.forEach((name, before) -> CALLS.forEach((call, function) ->
                edges.refused(call + " of " + name, before, function, CODES.get(call))));

        edges.refused("undo() of a new object", x -> { }, CoflowSimulator::undo, Edges.BAD_STATE);
        edges.refused("read() of a new object", x -> { }, CoflowSimulator::read, Edges.BAD_STATE);
        edges.refused("addGroup of a new object", x -> { }, x -> x.addGroup(0, 1, 0), Edges.BAD_STATE);
        edges.refused("bestOrder() of a new object", x -> { }, CoflowSimulator::bestOrder, Edges.BAD_STATE);
        edges.refused("flowPart(1, 1, 5) of a busy object", RefusalEdges::busy, x -> x.flowPart(1, 1, 5), Edges.BAD_VALUE);
        edges.refused("event(0, 3) of a busy object", RefusalEdges::busy, x -> x.event(0, 3), Edges.BAD_VALUE);
        edges.refused("type(32) of a full object", RefusalEdges::full, x -> x.type(32), Edges.FULL);
        edges.refused("flow(0, 0, 1) of a full object", RefusalEdges::full, x -> x.flow(0, 0, 1), Edges.FULL);
        edges.refused("addGroup of a full object", RefusalEdges::full, x -> x.addGroup(0, 1, 0), Edges.FULL);
        edges.refused("read() of a full object", RefusalEdges::full, CoflowSimulator::read, Edges.BAD_STATE);
        edges.refused("bestOrder() of a full object", RefusalEdges::full, CoflowSimulator::bestOrder, Edges.BAD_STATE);
        edges.refused("bestOrderAt(0) of a full object", RefusalEdges::full, x -> x.bestOrderAt(0), Edges.BAD_STATE);
        edges.refused("undo() when all six are undone", x -> {
            full(x);
            for (int i = 0; i < 6; i++) {
                x.undo();
            }
        }, CoflowSimulator::undo, Edges.BAD_STATE);
    }
}
