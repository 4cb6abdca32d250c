import java.util.Random;

/**
 * Random runs of 150 steps of one call or some, each call's answer and the digest behind it compared with those of
 * ReferenceSimulator. The seeds are fixed, so every run can be repeated: java RandomRunsTest FIRST_SEED RUNS.
 */
public final class RandomRunsTest {
    private static final int RUNS = 2000;
    private static final int CALLS = 150;

    private final Random random;
    private final CoflowSimulator tested = new CoflowSimulator();
    private final ReferenceSimulator due = new ReferenceSimulator();
    private final StringBuilder told = new StringBuilder();
    private boolean wrong;

    // what kind of run this is
    private final int sizes;
    private final int ports;
    private final int capacities;
    private final int passes;
    private final int flowsAtOnce;
    /** A run whose groups come to their end soon, so that its totals are numbers. */
    private final boolean calm;
    private final boolean oftenForetold;

    private RandomRunsTest(long seed) {
        random = new Random(seed);
        sizes = pick(3, 40, 300, 2000, 100000);
        ports = pick(1, 2, 3, 8);
        capacities = pick(3, 20, 120, 1000);
        passes = pick(1, 3, 10, 500);
        flowsAtOnce = pick(1, 3, 16);
        calm = random.nextInt(5) < 2;
        oftenForetold = calm || random.nextInt(6) == 0;
    }

    public static void main(String[] args) {
        int first = args.length > 0 ? Integer.parseInt(args[0]) : 1;
        int runs = args.length > 1 ? Integer.parseInt(args[1]) : RUNS;
        int wrongRuns = 0;
        for (int seed = first; seed < first + runs; seed++) {
            RandomRunsTest run = new RandomRunsTest(seed);
            run.play();
            if (run.wrong) {
                wrongRuns++;
                System.out.println("seed " + seed + ":\n" + run.told);
            }
            if (wrongRuns == 3) {
                break;
            }
        }
        System.out.println(runs + " random runs, " + wrongRuns + " wrong");
        if (wrongRuns > 0) {
            System.exit(1);
        }
    }

    private int pick(int... of) {
        return of[random.nextInt(of.length)];
    }

    /** A number from low to high; now and then an edge, one beyond it, or any int. */
    private int number(int low, int high) {
        int way = random.nextInt(60);
        if (way == 0) {
            return pick(low - 1, high + 1, Integer.MIN_VALUE, Integer.MAX_VALUE, random.nextInt());
        }
        if (way == 1) {
            return pick(low, high);
        }
        return low + random.nextInt(high - low + 1);
    }

    private int port() {
        return random.nextInt(10) == 0 ? number(0, 7) : random.nextInt(ports);
    }

    private int anyPort() {
        return random.nextInt(10) == 0 ? number(0, 15) : random.nextInt(ports) + pick(0, 8);
    }

    private int group() {
        return number(0, Math.max(0, due.groupCount() - 1));
    }

    private int flowOf(int group) {
        return number(0, Math.max(0, due.flowCount(group) - 1));
    }

    private int size() {
        if (calm) {
            return number(1, Math.min(sizes, 300));
        }
        return random.nextInt(8) == 0 ? number(1, 100000) : number(1, sizes);
    }

    private void same(String call, long got, long want) {
        told.append("  ").append(call).append(" = ").append(got);
        if (got != want) {
            told.append(", due is ").append(want);
            wrong = true;
        }
        told.append('\n');
    }

    private void play() {
        for (int i = 0; i < CALLS && !wrong; i++) {
            call();
            if (tested.digest() != due.digest()) {
                same("digest()", tested.digest(), due.digest());
            }
        }
    }

    private void call() {
        int way = random.nextInt(100);
        if (way < 8) {
            writeText();
        } else if (way < 24) {
            fillDraft();
        } else if (way < 34) {
            addGroup();
        } else if (way < 48) {
            change();
        } else if (way < 60) {
            int many = random.nextInt(30) == 0 ? number(1, 500) : number(1, passes);
            same("pass(" + many + ")", tested.pass(many), due.pass(many));
        } else if (way < 64) {
            same("undo()", tested.undo(), due.undo());
        } else if (way < 74) {
            askGroup();
        } else if (way < 84) {
            askNextTick();
        } else if (way < (oftenForetold ? 94 : 86)) {
            askForetelling();
        } else {
            askHappened();
        }
    }

    private void writeText() {
        if (random.nextInt(3) > 0) {
            same("clearText()", tested.clearText(), due.clearText());
        }
        int flows = 1 + random.nextInt(4);
        if (random.nextInt(8) == 0) {
            flows = 18;
        }
        StringBuilder text = new StringBuilder();
        for (int i = 0; i < flows; i++) {
            text.append(i == 0 ? "" : ",").append(port()).append(">").append(port()).append(":").append(size());
        }
        for (int i = random.nextInt(3); i > 0; i--) {
            text.insert(random.nextInt(text.length() + 1), pick(' ', ' ', ' ', '0', ',', '>', '9', 'x', ':'));
        }
        for (int i = 0; i < text.length(); i++) {
            char sign = random.nextInt(200) == 0 ? (char) random.nextInt(256) : text.charAt(i);
            if (random.nextInt(200) == 0) {
                continue;
            }
            if (random.nextInt(40) == 0) {
                same("type(32)", tested.type(' '), due.type(' '));
            }
            same("type(" + (int) sign + ")", tested.type(sign), due.type(sign));
        }
        int code = random.nextInt(20) == 0 ? number(0, 255) : ' ';
        same("type(" + code + ")", tested.type(code), due.type(code));
        same("textFault()", tested.textFault(), due.textFault());
        same("read()", tested.read(), due.read());
    }

    private void fillDraft() {
        if (random.nextInt(40) == 0) {
            same("dropDraft()", tested.dropDraft(), due.dropDraft());
            return;
        }
        for (int i = 1 + random.nextInt(flowsAtOnce); i > 0; i--) {
            int sender = port();
            int receiver = port();
            int size = size();
            same("flow(" + sender + ", " + receiver + ", " + size + ")", tested.flow(sender, receiver, size),
                    due.flow(sender, receiver, size));
        }
    }

    private void addGroup() {
        int delay = random.nextInt(3) > 0 ? 0 : calm || random.nextInt(3) > 0 ? number(0, 20) : number(0, 1000);
        int weight = number(1, pick(3, 100));
        int deadline = random.nextInt(2) == 0 ? 0 : random.nextInt(4) > 0 ? number(1, 30) : number(0, 10000);
        same("addGroup(" + delay + ", " + weight + ", " + deadline + ")", tested.addGroup(delay, weight, deadline),
                due.addGroup(delay, weight, deadline));
    }

    private void change() {
        int way = random.nextInt(4);
        if (way < 2) {
            int port = anyPort();
            int capacity = random.nextInt(10) == 0 ? number(0, 1000) : number(calm ? 3 : 0, capacities);
            same("setCapacity(" + port + ", " + capacity + ")", tested.setCapacity(port, capacity),
                    due.setCapacity(port, capacity));
        } else if (way == 2) {
            int policy = number(0, 5);
            same("setPolicy(" + policy + ")", tested.setPolicy(policy), due.setPolicy(policy));
        } else {
            boolean sharing = random.nextBoolean();
            boolean deadlines = random.nextBoolean();
            same("setRules(" + sharing + ", " + deadlines + ")", tested.setRules(sharing, deadlines),
                    due.setRules(sharing, deadlines));
        }
    }

    private void askGroup() {
        int group = group();
        same("state(" + group + ")", tested.state(group), due.state(group));
        same("arrival(" + group + ")", tested.arrival(group), due.arrival(group));
        same("end(" + group + ")", tested.end(group), due.end(group));
        same("flowCount(" + group + ")", tested.flowCount(group), due.flowCount(group));
        int flow = flowOf(group);
        int what = number(0, 4);
        same("flowPart(" + group + ", " + flow + ", " + what + ")", tested.flowPart(group, flow, what),
                due.flowPart(group, flow, what));
        same("rest(" + group + ")", tested.rest(group), due.rest(group));
        same("level(" + group + ")", tested.level(group), due.level(group));
        same("loneSpan(" + group + ")", tested.loneSpan(group), due.loneSpan(group));
    }

    private void askNextTick() {
        for (int i = 0; i < 4; i++) {
            int group = group();
            int flow = flowOf(group);
            int port = anyPort();
            same("place(" + group + ")", tested.place(group), due.place(group));
            same("nextSpan(" + group + ")", tested.nextSpan(group), due.nextSpan(group));
            same("nextRate(" + group + ", " + flow + ")", tested.nextRate(group, flow), due.nextRate(group, flow));
            same("spare(" + port + ")", tested.spare(port), due.spare(port));
        }
    }

    private void askForetelling() {
        int way = random.nextInt(6);
        if (way == 0) {
            int group = group();
            same("outlook(" + group + ")", tested.outlook(group), due.outlook(group));
        } else if (way == 1) {
            int policy = number(0, 5);
            same("total(" + policy + ")", tested.total(policy), due.total(policy));
        } else if (way == 2) {
            same("bestPolicy()", tested.bestPolicy(), due.bestPolicy());
        } else if (way == 3) {
            same("bestOrder()", tested.bestOrder(), due.bestOrder());
        } else if (way == 4) {
            int index = number(0, 4);
            same("bestOrderAt(" + index + ")", tested.bestOrderAt(index), due.bestOrderAt(index));
        } else {
            same("bound()", tested.bound(), due.bound());
        }
    }

    private void askHappened() {
        int port = anyPort();
        int event = number(0, Math.max(0, due.eventCount() - 1));
        int what = number(0, 2);
        same("time()", tested.time(), due.time());
        same("groupCount()", tested.groupCount(), due.groupCount());
        same("moved(" + port + ")", tested.moved(port), due.moved(port));
        same("preemptions()", tested.preemptions(), due.preemptions());
        same("eventCount()", tested.eventCount(), due.eventCount());
        same("event(" + event + ", " + what + ")", tested.event(event, what), due.event(event, what));
    }
}
