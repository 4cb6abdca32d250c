import java.util.ArrayDeque;
import java.util.ArrayList;
import java.util.Comparator;
import java.util.Deque;
import java.util.List;

/**
 * A second, slow writing of ../shared/DOC.md, with the Java library, lists and deep copies, made to be compared with
 * CoflowSimulator. It follows the document's words one by one and takes no short cut.
 */
final class ReferenceSimulator {
    static final int NONE = -1, BAD_INDEX = -2, BAD_VALUE = -3, BAD_STATE = -4, FULL = -5;

    static final class Flow {
        int sender, receiver, size, rest, rate;

        Flow(int sender, int receiver, int size) {
            this.sender = sender;
            this.receiver = receiver;
            this.size = size;
            this.rest = size;
        }

        Flow copy() {
            Flow made = new Flow(sender, receiver, size);
            made.rest = rest;
            made.rate = rate;
            return made;
        }

        boolean uses(int port) {
            return port == sender || port == 8 + receiver;
        }
    }

    static final class Group {
        int number, arrival, weight, deadline, end = NONE;
        boolean rejected;
        List<Flow> flows = new ArrayList<>();

        Group copy() {
            Group made = new Group();
            made.number = number;
            made.arrival = arrival;
            made.weight = weight;
            made.deadline = deadline;
            made.end = end;
            made.rejected = rejected;
            for (Flow flow : flows) {
                made.flows.add(flow.copy());
            }
            return made;
        }

        int rest() {
            return flows.stream().mapToInt(flow -> flow.rest).sum();
        }

        int sent() {
            return flows.stream().mapToInt(flow -> flow.size - flow.rest).sum();
        }

        int level() {
            int sent = sent();
            return (sent >= 100 ? 1 : 0) + (sent >= 1000 ? 1 : 0) + (sent >= 10000 ? 1 : 0) + (sent >= 100000 ? 1 : 0);
        }

        int undone() {
            return (int) flows.stream().filter(flow -> flow.rest > 0).count();
        }
    }

    static final class World {
        int time, policy, preemptions, first = NONE;
        boolean sharing = true, deadlines;
        int[] capacity = new int[16];
        int[] moved = new int[16];
        List<Flow> draft = new ArrayList<>();
        List<Group> groups = new ArrayList<>();
        List<int[]> events = new ArrayList<>();
        List<Integer> fixed;

        // the plan of a tick
        List<Group> order = new ArrayList<>();
        int[] lone = new int[12];
        int[] span = new int[12];
        int[] available = new int[16];

        World copy() {
            World made = new World();
            made.time = time;
            made.policy = policy;
            made.preemptions = preemptions;
            made.first = first;
            made.sharing = sharing;
            made.deadlines = deadlines;
            made.capacity = capacity.clone();
            made.moved = moved.clone();
            for (Flow flow : draft) {
                made.draft.add(flow.copy());
            }
            for (Group group : groups) {
                made.groups.add(group.copy());
            }
            made.events.addAll(events);
            made.fixed = fixed;
            return made;
        }

        int state(Group group) {
            if (group.rejected) {
                return 3;
            }
            if (time < group.arrival) {
                return 0;
            }
            return group.rest() > 0 ? 1 : 2;
        }

        boolean open(Group group) {
            return state(group) < 2;
        }

        List<Group> opened() {
            List<Group> found = new ArrayList<>();
            for (Group group : groups) {
                if (open(group)) {
                    found.add(group);
                }
            }
            return found;
        }

        void note(int kind, int group, int when) {
            events.add(new int[] {kind, group, when});
            if (events.size() > 20) {
                events.remove(0);
            }
        }

        static int up(int number, int divisor) {
            return number / divisor + (number % divisor == 0 ? 0 : 1);
        }

        static boolean enough(Group group, int ticks, int[] room) {
            int[] sum = new int[16];
            for (Flow flow : group.flows) {
                if (flow.rest > 0) {
                    sum[flow.sender] += up(flow.rest, ticks);
                    sum[8 + flow.receiver] += up(flow.rest, ticks);
                }
            }
            for (int port = 0; port < 16; port++) {
                if (sum[port] > room[port]) {
                    return false;
                }
            }
            return true;
        }

        static int span(Group group, int[] room) {
            if (!enough(group, 100000, room)) {
                return NONE;
            }
            int no = 0;
            int yes = 100000;
            while (yes - no > 1) {
                int middle = (no + yes) / 2;
                if (enough(group, middle, room)) {
                    yes = middle;
                } else {
                    no = middle;
                }
            }
            return yes;
        }

        long loneOrLast(Group group) {
            return lone[group.number] == NONE ? Long.MAX_VALUE : lone[group.number];
        }

        int compareFractions(Group a, Group b) {
            int spanA = lone[a.number];
            int spanB = lone[b.number];
            if (spanA == NONE || spanB == NONE) {
                return (spanA == NONE ? 1 : 0) - (spanB == NONE ? 1 : 0);
            }
            return Long.compare((long) spanA * b.weight, (long) spanB * a.weight);
        }

        Comparator<Group> byPolicy() {
            switch (policy) {
                case 0:
                    return Comparator.comparingLong(this::loneOrLast);
                case 1:
                    return Comparator.comparingInt(group -> group.arrival);
                case 2:
                    return Comparator.comparingInt(Group::rest);
                case 3:
                    return Comparator.comparingInt(Group::undone);
                case 4:
                    return Comparator.comparingInt(Group::level).thenComparingInt(group -> group.arrival);
                default:
                    return this::compareFractions;
            }
        }

        void step1() {
            List<Group> plain = new ArrayList<>();
            List<Group> urgent = new ArrayList<>();
            for (Group group : groups) {
                if (state(group) == 1) {
                    lone[group.number] = span(group, capacity);
                    (deadlines && group.deadline > 0 && fixed == null ? urgent : plain).add(group);
                }
            }
            if (fixed != null) {
                plain.sort(Comparator.comparingInt(group -> fixed.indexOf(group.number)));
            } else {
                plain.sort(byPolicy());
            }
            urgent.sort(Comparator.comparingInt(group -> group.arrival + group.deadline));
            order.clear();
            order.addAll(urgent);
            order.addAll(plain);
        }

        void step2() {
            available = capacity.clone();
            for (Group group : groups) {
                for (Flow flow : group.flows) {
                    flow.rate = 0;
                }
            }
            for (Group group : order) {
                int ticks = span(group, available);
                span[group.number] = ticks;
                if (ticks == NONE) {
                    continue;
                }
                if (deadlines && group.deadline > 0) {
                    int left = group.arrival + group.deadline - time;
                    if (left > ticks) {
                        ticks = left;
                    }
                }
                for (Flow flow : group.flows) {
                    if (flow.rest > 0) {
                        flow.rate = up(flow.rest, ticks);
                        available[flow.sender] -= flow.rate;
                        available[8 + flow.receiver] -= flow.rate;
                    }
                }
            }
        }

        void step3() {
            if (!sharing) {
                return;
            }
            for (Group group : order) {
                for (Flow flow : group.flows) {
                    if (flow.rest > 0) {
                        int more = Math.min(flow.rest - flow.rate,
                                Math.min(available[flow.sender], available[8 + flow.receiver]));
                        flow.rate += more;
                        available[flow.sender] -= more;
                        available[8 + flow.receiver] -= more;
                    }
                }
            }
        }

        void tick() {
            step1();
            if (!order.isEmpty()) {
                int newFirst = order.get(0).number;
                if (first != NONE && newFirst != first && state(groups.get(first)) == 1) {
                    preemptions++;
                    note(2, first, time);
                }
                first = newFirst;
            }
            step2();
            step3();
            for (Group group : groups) {
                for (Flow flow : group.flows) {
                    flow.rest -= flow.rate;
                    moved[flow.sender] += flow.rate;
                    moved[8 + flow.receiver] += flow.rate;
                }
            }
            time++;
            for (Group group : groups) {
                if (group.rest() == 0 && group.end == NONE) {
                    group.end = time;
                    note(1, group.number, time);
                }
            }
            for (Group group : groups) {
                if (state(group) == 1 && group.deadline > 0 && group.arrival + group.deadline == time) {
                    note(4, group.number, time);
                }
            }
        }

        int total() {
            int ticks = 0;
            while (!opened().isEmpty()) {
                if (ticks == 300) {
                    return NONE;
                }
                tick();
                ticks++;
            }
            int sum = 0;
            for (Group group : groups) {
                if (state(group) == 2) {
                    sum += group.end - group.arrival;
                }
            }
            return sum;
        }

        boolean fits(int deadline) {
            for (int port = 0; port < 16; port++) {
                int sum = 0;
                for (Group group : groups) {
                    if (group.deadline == 0 || !open(group)) {
                        continue;
                    }
                    int left = group.arrival + group.deadline - Math.max(time, group.arrival);
                    for (Flow flow : group.flows) {
                        if (flow.rest > 0 && flow.uses(port)) {
                            sum += left > 0 ? up(flow.rest, left) : flow.rest;
                        }
                    }
                }
                for (Flow flow : draft) {
                    if (flow.uses(port)) {
                        sum += up(flow.size, deadline);
                    }
                }
                if (sum > capacity[port]) {
                    return false;
                }
            }
            return true;
        }
    }

    private World world = new World();
    private final Deque<World> saved = new ArrayDeque<>();
    private String text = "";

    ReferenceSimulator() {
        java.util.Arrays.fill(world.capacity, 100);
    }

    private void save() {
        saved.addLast(world.copy());
        if (saved.size() > 6) {
            saved.removeFirst();
        }
    }

    int type(int code) {
        if (code < 0 || code > 255) {
            return BAD_VALUE;
        }
        if (text.length() == 120) {
            return FULL;
        }
        text += (char) code;
        return text.length();
    }

    int clearText() {
        int had = text.length();
        text = "";
        return had;
    }

    /**
     * A machine of places: before the sender, before '>', before the receiver, before ':', before the size, in the
     * size, behind it.
     */
    private int parse(List<Flow> found) {
        int place = 0;
        int sender = 0;
        int receiver = 0;
        String digits = "";
        int digitsAt = 0;
        for (int at = 0; at <= text.length(); at++) {
            char sign = at < text.length() ? text.charAt(at) : 0;
            boolean over = at == text.length();
            if (place == 5 && (over || sign < '0' || sign > '9')) {
                if (digits.length() > 6 || Integer.parseInt(digits) < 1 || Integer.parseInt(digits) > 100000) {
                    return digitsAt;
                }
                found.add(new Flow(sender, receiver, Integer.parseInt(digits)));
                place = 6;
            }
            if (over) {
                return place == 6 ? NONE : at;
            }
            if (sign == ' ') {
                continue;
            }
            if (place == 0 || place == 2) {
                if (sign < '0' || sign > '7' || place == 0 && world.draft.size() + found.size() >= 16) {
                    return at;
                }
                if (place == 0) {
                    sender = sign - '0';
                } else {
                    receiver = sign - '0';
                }
                place++;
            } else if (place == 1 || place == 3) {
                if (sign != (place == 1 ? '>' : ':')) {
                    return at;
                }
                place++;
            } else if (place == 4) {
                if (sign < '0' || sign > '9') {
                    return at;
                }
                digits = "" + sign;
                digitsAt = at;
                place = 5;
            } else if (place == 5) {
                digits += sign;
            } else {
                if (sign != ',') {
                    return at;
                }
                place = 0;
            }
        }
        throw new IllegalStateException("the text has an end");
    }

    int textFault() {
        return parse(new ArrayList<>());
    }

    int flow(int sender, int receiver, int size) {
        if (sender < 0 || sender > 7 || receiver < 0 || receiver > 7) {
            return BAD_INDEX;
        }
        if (size < 1 || size > 100000) {
            return BAD_VALUE;
        }
        if (world.draft.size() == 16) {
            return FULL;
        }
        save();
        world.draft.add(new Flow(sender, receiver, size));
        return world.draft.size();
    }

    int read() {
        List<Flow> found = new ArrayList<>();
        if (parse(found) != NONE) {
            return BAD_STATE;
        }
        save();
        world.draft.addAll(found);
        return world.draft.size();
    }

    int dropDraft() {
        save();
        int had = world.draft.size();
        world.draft.clear();
        return had;
    }

    int addGroup(int delay, int weight, int deadline) {
        if (delay < 0 || delay > 1000 || weight < 1 || weight > 100 || deadline < 0 || deadline > 10000) {
            return BAD_VALUE;
        }
        if (world.draft.isEmpty()) {
            return BAD_STATE;
        }
        if (world.groups.size() == 12) {
            return FULL;
        }
        save();
        Group made = new Group();
        made.number = world.groups.size();
        made.arrival = world.time + delay;
        made.weight = weight;
        made.deadline = deadline;
        made.rejected = world.deadlines && deadline > 0 && !world.fits(deadline);
        made.flows = world.draft;
        world.draft = new ArrayList<>();
        world.groups.add(made);
        if (made.rejected) {
            world.note(3, made.number, world.time);
        }
        return made.number;
    }

    int setCapacity(int port, int capacity) {
        if (port < 0 || port > 15) {
            return BAD_INDEX;
        }
        if (capacity < 0 || capacity > 1000) {
            return BAD_VALUE;
        }
        save();
        int had = world.capacity[port];
        world.capacity[port] = capacity;
        return had;
    }

    int setPolicy(int policy) {
        if (policy < 0 || policy > 5) {
            return BAD_VALUE;
        }
        save();
        int had = world.policy;
        world.policy = policy;
        return had;
    }

    int setRules(boolean sharing, boolean deadlines) {
        save();
        int had = (world.sharing ? 1 : 0) + (world.deadlines ? 2 : 0);
        world.sharing = sharing;
        world.deadlines = deadlines;
        return had;
    }

    int pass(int many) {
        if (many < 1 || many > 500) {
            return BAD_VALUE;
        }
        save();
        for (int i = 0; i < many; i++) {
            world.tick();
        }
        return (int) world.groups.stream().filter(group -> world.state(group) == 1).count();
    }

    int undo() {
        if (saved.isEmpty()) {
            return BAD_STATE;
        }
        world = saved.removeLast();
        return saved.size();
    }

    int time() {
        return world.time;
    }

    int groupCount() {
        return world.groups.size();
    }

    private boolean known(int group) {
        return group >= 0 && group < world.groups.size();
    }

    private boolean known(int group, int flow) {
        return known(group) && flow >= 0 && flow < world.groups.get(group).flows.size();
    }

    int state(int group) {
        return known(group) ? world.state(world.groups.get(group)) : BAD_INDEX;
    }

    int arrival(int group) {
        return known(group) ? world.groups.get(group).arrival : BAD_INDEX;
    }

    int end(int group) {
        return known(group) ? world.groups.get(group).end : BAD_INDEX;
    }

    int flowCount(int group) {
        return known(group) ? world.groups.get(group).flows.size() : BAD_INDEX;
    }

    int flowPart(int group, int flow, int what) {
        if (!known(group, flow)) {
            return BAD_INDEX;
        }
        if (what < 0 || what > 4) {
            return BAD_VALUE;
        }
        Flow asked = world.groups.get(group).flows.get(flow);
        return new int[] {asked.sender, asked.receiver, asked.size, asked.rest, asked.rate}[what];
    }

    int rest(int group) {
        return known(group) ? world.groups.get(group).rest() : BAD_INDEX;
    }

    int level(int group) {
        return known(group) ? world.groups.get(group).level() : BAD_INDEX;
    }

    int loneSpan(int group) {
        if (!known(group)) {
            return BAD_INDEX;
        }
        Group asked = world.groups.get(group);
        return asked.end != NONE ? NONE : World.span(asked, world.capacity);
    }

    private World planned() {
        World copy = world.copy();
        copy.step1();
        copy.step2();
        copy.step3();
        return copy;
    }

    int place(int group) {
        if (!known(group)) {
            return BAD_INDEX;
        }
        World copy = planned();
        return copy.order.indexOf(copy.groups.get(group));
    }

    int nextSpan(int group) {
        if (!known(group)) {
            return BAD_INDEX;
        }
        World copy = planned();
        return copy.order.contains(copy.groups.get(group)) ? copy.span[group] : NONE;
    }

    int nextRate(int group, int flow) {
        return known(group, flow) ? planned().groups.get(group).flows.get(flow).rate : BAD_INDEX;
    }

    int spare(int port) {
        return port < 0 || port > 15 ? BAD_INDEX : planned().available[port];
    }

    int outlook(int group) {
        if (!known(group)) {
            return BAD_INDEX;
        }
        World copy = world.copy();
        for (int i = 0; i < 1000; i++) {
            copy.tick();
        }
        return copy.groups.get(group).end;
    }

    int total(int policy) {
        if (policy < 0 || policy > 5) {
            return BAD_VALUE;
        }
        World copy = world.copy();
        copy.policy = policy;
        return copy.total();
    }

    int bestPolicy() {
        int best = NONE;
        int least = Integer.MAX_VALUE;
        for (int policy = 0; policy < 6; policy++) {
            int total = total(policy);
            if (total != NONE && total < least) {
                least = total;
                best = policy;
            }
        }
        return best;
    }

    private List<Integer> bestFound;
    private int bestTotal;

    private void tryOrders(List<Integer> begun, List<Integer> left) {
        if (left.isEmpty()) {
            World copy = world.copy();
            copy.deadlines = false;
            copy.fixed = begun;
            int total = copy.total();
            int value = total == NONE ? Integer.MAX_VALUE : total;
            if (bestFound == null || value < bestTotal) {
                bestFound = begun;
                bestTotal = value;
            }
            return;
        }
        for (Integer next : left) {
            List<Integer> longer = new ArrayList<>(begun);
            longer.add(next);
            List<Integer> fewer = new ArrayList<>(left);
            fewer.remove(next);
            tryOrders(longer, fewer);
        }
    }

    private void findBest() {
        bestFound = null;
        List<Integer> left = new ArrayList<>();
        for (Group group : world.opened()) {
            left.add(group.number);
        }
        tryOrders(new ArrayList<>(), left);
    }

    int bestOrder() {
        int open = world.opened().size();
        if (open < 1 || open > 4) {
            return BAD_STATE;
        }
        findBest();
        return bestTotal == Integer.MAX_VALUE ? NONE : bestTotal;
    }

    int bestOrderAt(int index) {
        int open = world.opened().size();
        if (index < 0 || index > open - 1) {
            return BAD_INDEX;
        }
        if (open < 1 || open > 4) {
            return BAD_STATE;
        }
        findBest();
        return bestFound.get(index);
    }

    int bound() {
        int greatest = 0;
        for (int port = 0; port < 16; port++) {
            int sum = 0;
            for (Group group : world.opened()) {
                for (Flow flow : group.flows) {
                    if (flow.uses(port)) {
                        sum += flow.rest;
                    }
                }
            }
            if (sum > 0 && world.capacity[port] == 0) {
                return NONE;
            }
            if (sum > 0) {
                greatest = Math.max(greatest, World.up(sum, world.capacity[port]));
            }
        }
        return greatest;
    }

    int moved(int port) {
        return port < 0 || port > 15 ? BAD_INDEX : world.moved[port];
    }

    int preemptions() {
        return world.preemptions;
    }

    int eventCount() {
        return world.events.size();
    }

    int event(int event, int what) {
        if (event < 0 || event >= world.events.size()) {
            return BAD_INDEX;
        }
        if (what < 0 || what > 2) {
            return BAD_VALUE;
        }
        return world.events.get(world.events.size() - 1 - event)[what];
    }

    long digest() {
        List<Integer> numbers = new ArrayList<>(List.of(world.time, world.policy, world.sharing ? 1 : 0,
                world.deadlines ? 1 : 0, world.preemptions));
        for (int port = 0; port < 16; port++) {
            numbers.add(world.capacity[port]);
            numbers.add(world.moved[port]);
        }
        numbers.add(world.draft.size());
        for (Flow flow : world.draft) {
            numbers.addAll(List.of(flow.sender, flow.receiver, flow.size));
        }
        for (Group group : world.groups) {
            numbers.addAll(List.of(world.state(group), group.arrival, group.weight, group.deadline, group.end));
            for (Flow flow : group.flows) {
                numbers.addAll(List.of(flow.sender, flow.receiver, flow.size, flow.rest, flow.rate));
            }
        }
        for (int[] event : world.events) {
            numbers.addAll(List.of(event[0], event[1], event[2]));
        }
        long hash = 17;
        for (int number : numbers) {
            hash = 31 * hash + number;
        }
        return hash;
    }
}
