import java.util.Arrays;

/**
 * A simulator of groups of network flows that are done only when all their flows are done (coflows).
 * Every row that a call works on is made in the constructor; no call makes an object.
 */
public final class CoflowSimulator {
    public static final int NONE = -1, BAD_INDEX = -2, BAD_VALUE = -3, BAD_STATE = -4, FULL = -5;

    private static final int SIDE = 8;
    private static final int PORTS = 16;
    private static final int FIRST_CAPACITY = 100;
    private static final int MAX_CAPACITY = 1000;

    private static final int MAX_GROUPS = 12;
    private static final int MAX_FLOWS = 16;
    private static final int MAX_SIZE = 100000;
    private static final int MAX_WEIGHT = 100;
    private static final int MAX_DELAY = 1000;
    private static final int MAX_DEADLINE = 10000;
    private static final int MAX_PASS = 500;
    private static final int[] THRESHOLDS = {100, 1000, 10000, 100000};

    private static final int WAITING = 0, ACTIVE = 1, DONE = 2, REJECTED = 3;
    private static final int EVENT_DONE = 1, EVENT_PREEMPTION = 2, EVENT_REJECTED = 3, EVENT_LATE = 4;
    private static final int MAX_EVENTS = 20;
    private static final int MAX_SAVED = 6;

    private static final int BY_SPAN = 0, BY_ARRIVAL = 1, BY_REST = 2, BY_FLOWS = 3, BY_LEVEL = 4, BY_WEIGHTED_SPAN = 5;
    private static final int POLICIES = 6;
    /** The policy that only copies have, on which the totals of fixed orders are found. */
    private static final int BY_FIXED_PLACE = 6;

    private static final int TOTAL_TICKS = 300;
    private static final int OUTLOOK_TICKS = 1000;
    private static final int MAX_ORDERED = 4;
    private static final int MAX_ORDERS = 24;

    private static final int MAX_TEXT = 120;
    private static final int MAX_DIGITS = 6;
    private static final int BLANK = 32;

    private final FlowText text;
    private final State now;
    private final History history;
    private final Tick tick;
    private final PortLoads loads;
    private final Foretelling foretelling;

    public CoflowSimulator() {
        text = new FlowText();
        now = new State();
        history = new History();
        tick = new Tick();
        loads = new PortLoads();
        foretelling = new Foretelling();
    }

    // ---- the text and the draft

    public int type(int code) {
        if (code < 0 || code > 255) {
            return BAD_VALUE;
        }
        return text.append(code) ? text.length : FULL;
    }

    public int clearText() {
        int had = text.length;
        text.length = 0;
        return had;
    }

    public int textFault() {
        return text.findFault(MAX_FLOWS - now.draft.count);
    }

    public int flow(int sender, int receiver, int size) {
        if (!isOneOf(sender, SIDE) || !isOneOf(receiver, SIDE)) {
            return BAD_INDEX;
        }
        if (size < 1 || size > MAX_SIZE) {
            return BAD_VALUE;
        }
        if (now.draft.count >= MAX_FLOWS) {
            return FULL;
        }
        save();
        now.draft.append(sender, receiver, size);
        return now.draft.count;
    }

    public int read() {
        if (text.findFault(MAX_FLOWS - now.draft.count) != NONE) {
            return BAD_STATE;
        }
        save();
        now.draft.appendAll(text.found);
        return now.draft.count;
    }

    public int dropDraft() {
        save();
        int had = now.draft.count;
        now.draft.count = 0;
        return had;
    }

    // ---- groups and settings

    public int addGroup(int delay, int weight, int deadline) {
        if (delay < 0 || delay > MAX_DELAY || weight < 1 || weight > MAX_WEIGHT
                || deadline < 0 || deadline > MAX_DEADLINE) {
            return BAD_VALUE;
        }
        if (now.draft.count == 0) {
            return BAD_STATE;
        }
        if (now.groupCount >= MAX_GROUPS) {
            return FULL;
        }
        save();
        boolean rejected = now.deadlines && deadline > 0 && !loads.haveRoomFor(now, deadline);
        return now.makeGroup(delay, weight, deadline, rejected);
    }

    public int setCapacity(int port, int capacity) {
        if (!isOneOf(port, PORTS)) {
            return BAD_INDEX;
        }
        if (capacity < 0 || capacity > MAX_CAPACITY) {
            return BAD_VALUE;
        }
        save();
        int previous = now.capacity[port];
        now.capacity[port] = capacity;
        return previous;
    }

    public int setPolicy(int policy) {
        if (!isOneOf(policy, POLICIES)) {
            return BAD_VALUE;
        }
        save();
        int previous = now.policy;
        now.policy = policy;
        return previous;
    }

    public int setRules(boolean sharing, boolean deadlines) {
        save();
        int previous = (now.sharing ? 1 : 0) + (now.deadlines ? 2 : 0);
        now.sharing = sharing;
        now.deadlines = deadlines;
        return previous;
    }

    // ---- time

    public int pass(int many) {
        if (many < 1 || many > MAX_PASS) {
            return BAD_VALUE;
        }
        save();
        for (int i = 0; i < many; i++) {
            tick.perform(now);
        }
        return now.countGroups(ACTIVE);
    }

    public int undo() {
        if (history.kept == 0) {
            return BAD_STATE;
        }
        history.bringBack(now);
        foretelling.forget();
        return history.kept;
    }

    public int time() {
        return now.time;
    }

    // ---- groups and flows

    public int groupCount() {
        return now.groupCount;
    }

    public int state(int group) {
        return isGroup(group) ? now.groups[group].stateAt(now.time) : BAD_INDEX;
    }

    public int arrival(int group) {
        return isGroup(group) ? now.groups[group].arrival : BAD_INDEX;
    }

    public int end(int group) {
        return isGroup(group) ? now.groups[group].end : BAD_INDEX;
    }

    public int flowCount(int group) {
        return isGroup(group) ? now.groups[group].flows.count : BAD_INDEX;
    }

    public int flowPart(int group, int flow, int what) {
        if (!isFlow(group, flow)) {
            return BAD_INDEX;
        }
        FlowList flows = now.groups[group].flows;
        switch (what) {
            case 0:
                return flows.sender[flow];
            case 1:
                return flows.receiver[flow];
            case 2:
                return flows.size[flow];
            case 3:
                return flows.rest[flow];
            case 4:
                return flows.rate[flow];
            default:
                return BAD_VALUE;
        }
    }

    public int rest(int group) {
        return isGroup(group) ? now.groups[group].flows.sumOfRests() : BAD_INDEX;
    }

    public int level(int group) {
        return isGroup(group) ? now.groups[group].flows.levelReached() : BAD_INDEX;
    }

    public int loneSpan(int group) {
        if (!isGroup(group)) {
            return BAD_INDEX;
        }
        Group asked = now.groups[group];
        return asked.stateAt(now.time) == DONE ? NONE : tick.spanOf(asked.flows, now.capacity);
    }

    // ---- the next tick

    public int place(int group) {
        if (!isGroup(group)) {
            return BAD_INDEX;
        }
        tick.putInOrder(now);
        return tick.placeOf(group);
    }

    public int nextSpan(int group) {
        if (!isGroup(group)) {
            return BAD_INDEX;
        }
        foretelling.planTick(now);
        return foretelling.tick.placeOf(group) == NONE ? NONE : foretelling.tick.span[group];
    }

    public int nextRate(int group, int flow) {
        if (!isFlow(group, flow)) {
            return BAD_INDEX;
        }
        foretelling.planTick(now);
        return foretelling.copy.groups[group].flows.rate[flow];
    }

    public int spare(int port) {
        if (!isOneOf(port, PORTS)) {
            return BAD_INDEX;
        }
        foretelling.planTick(now);
        return foretelling.tick.available[port];
    }

    // ---- foretelling

    public int outlook(int group) {
        return isGroup(group) ? foretelling.endOf(now, group) : BAD_INDEX;
    }

    public int total(int policy) {
        return isOneOf(policy, POLICIES) ? foretelling.totalOf(now, policy) : BAD_VALUE;
    }

    public int bestPolicy() {
        int best = NONE;
        int least = NONE;
        for (int policy = 0; policy < POLICIES; policy++) {
            int found = foretelling.totalOf(now, policy);
            if (isLess(found, least)) {
                least = found;
                best = policy;
            }
        }
        return best;
    }

    public int bestOrder() {
        if (!canBeOrdered()) {
            return BAD_STATE;
        }
        foretelling.findBestOrder(now);
        return foretelling.bestTotal;
    }

    public int bestOrderAt(int index) {
        if (!isOneOf(index, now.countOpen())) {
            return BAD_INDEX;
        }
        if (!canBeOrdered()) {
            return BAD_STATE;
        }
        foretelling.findBestOrder(now);
        return isOneOf(index, MAX_ORDERED) ? foretelling.best[index] : BAD_STATE;
    }

    public int bound() {
        return loads.boundOf(now);
    }

    // ---- what happened

    public int moved(int port) {
        return isOneOf(port, PORTS) ? now.moved[port] : BAD_INDEX;
    }

    public int preemptions() {
        return now.preemptions;
    }

    public int eventCount() {
        return now.log.kept;
    }

    public int event(int event, int what) {
        if (!isOneOf(event, now.log.kept)) {
            return BAD_INDEX;
        }
        int slot = now.log.slotOf(event);
        switch (what) {
            case 0:
                return now.log.kind[slot];
            case 1:
                return now.log.group[slot];
            case 2:
                return now.log.time[slot];
            default:
                return BAD_VALUE;
        }
    }

    public long digest() {
        long hash = mixed(17, now.time);
        hash = mixed(hash, now.policy);
        hash = mixed(hash, now.sharing ? 1 : 0);
        hash = mixed(hash, now.deadlines ? 1 : 0);
        hash = mixed(hash, now.preemptions);
        for (int port = 0; port < PORTS; port++) {
            hash = mixed(hash, now.capacity[port]);
            hash = mixed(hash, now.moved[port]);
        }
        hash = withDraft(hash);
        for (int group = 0; group < now.groupCount; group++) {
            hash = withGroup(hash, now.groups[group]);
        }
        return withEvents(hash);
    }

    private long withDraft(long before) {
        FlowList draft = now.draft;
        long hash = mixed(before, draft.count);
        for (int i = 0; i < draft.count; i++) {
            hash = mixed(hash, draft.sender[i]);
            hash = mixed(hash, draft.receiver[i]);
            hash = mixed(hash, draft.size[i]);
        }
        return hash;
    }

    private long withGroup(long before, Group group) {
        long hash = mixed(before, group.stateAt(now.time));
        hash = mixed(hash, group.arrival);
        hash = mixed(hash, group.weight);
        hash = mixed(hash, group.deadline);
        hash = mixed(hash, group.end);
        FlowList flows = group.flows;
        for (int i = 0; i < flows.count; i++) {
            hash = mixed(hash, flows.sender[i]);
            hash = mixed(hash, flows.receiver[i]);
            hash = mixed(hash, flows.size[i]);
            hash = mixed(hash, flows.rest[i]);
            hash = mixed(hash, flows.rate[i]);
        }
        return hash;
    }

    private long withEvents(long before) {
        EventLog log = now.log;
        long hash = before;
        for (int back = log.kept - 1; back >= 0; back--) {
            int slot = log.slotOf(back);
            hash = mixed(hash, log.kind[slot]);
            hash = mixed(hash, log.group[slot]);
            hash = mixed(hash, log.time[slot]);
        }
        return hash;
    }

    private static long mixed(long hash, long number) {
        return 31 * hash + number;
    }

    private void save() {
        history.keep(now);
        foretelling.forget();
    }

    private boolean isGroup(int group) {
        return isOneOf(group, now.groupCount);
    }

    private boolean isFlow(int group, int flow) {
        return isGroup(group) && isOneOf(flow, now.groups[group].flows.count);
    }

    private boolean canBeOrdered() {
        int open = now.countOpen();
        return open >= 1 && open <= MAX_ORDERED;
    }

    private static boolean isOneOf(int index, int count) {
        return index >= 0 && index < count;
    }

    /** Compares totals, of which NONE is the greatest. */
    private static boolean isLess(int total, int other) {
        return total != NONE && (other == NONE || total < other);
    }

    private static int roundedUp(int number, int divisor) {
        return divisor < 1 ? 0 : (number + divisor - 1) / divisor;
    }

    /** Up to 16 flows: the draft, the flows of a group, or those that were found in the text. */
    private static final class FlowList {
        int count;
        final int[] sender;
        final int[] receiver;
        final int[] size;
        final int[] rest;
        final int[] rate;

        FlowList() {
            sender = new int[MAX_FLOWS];
            receiver = new int[MAX_FLOWS];
            size = new int[MAX_FLOWS];
            rest = new int[MAX_FLOWS];
            rate = new int[MAX_FLOWS];
        }

        void append(int from, int to, int units) {
            if (!isOneOf(count, MAX_FLOWS)) {
                return;
            }
            sender[count] = from;
            receiver[count] = to;
            size[count] = units;
            rest[count] = units;
            rate[count] = 0;
            count++;
        }

        void appendAll(FlowList other) {
            for (int i = 0; i < other.count; i++) {
                append(other.sender[i], other.receiver[i], other.size[i]);
            }
        }

        /** What stands behind the last flow is never read, so it isn't copied. */
        void copyFrom(FlowList other) {
            count = other.count;
            System.arraycopy(other.sender, 0, sender, 0, count);
            System.arraycopy(other.receiver, 0, receiver, 0, count);
            System.arraycopy(other.size, 0, size, 0, count);
            System.arraycopy(other.rest, 0, rest, 0, count);
            System.arraycopy(other.rate, 0, rate, 0, count);
        }

        int sumOfRests() {
            int sum = 0;
            for (int i = 0; i < count; i++) {
                sum += rest[i];
            }
            return sum;
        }

        int countUndone() {
            int many = 0;
            for (int i = 0; i < count; i++) {
                if (rest[i] > 0) {
                    many++;
                }
            }
            return many;
        }

        int levelReached() {
            int sent = 0;
            for (int i = 0; i < count; i++) {
                sent += size[i] - rest[i];
            }
            int reached = 0;
            for (int threshold : THRESHOLDS) {
                if (threshold <= sent) {
                    reached++;
                }
            }
            return reached;
        }
    }

    private static final class Group {
        int arrival;
        int weight;
        int deadline;
        int end;
        boolean rejected;
        final FlowList flows;

        Group() {
            flows = new FlowList();
        }

        void copyFrom(Group other) {
            arrival = other.arrival;
            weight = other.weight;
            deadline = other.deadline;
            end = other.end;
            rejected = other.rejected;
            flows.copyFrom(other.flows);
        }

        int stateAt(int time) {
            if (rejected) {
                return REJECTED;
            }
            if (end != NONE) {
                return DONE;
            }
            return time < arrival ? WAITING : ACTIVE;
        }

        boolean isOpen() {
            return !rejected && end == NONE;
        }

        int deadlineEnd() {
            return arrival + deadline;
        }
    }

    /** The latest events, in a ring. */
    private static final class EventLog {
        int kept;
        int next;
        final int[] kind;
        final int[] group;
        final int[] time;

        EventLog() {
            kind = new int[MAX_EVENTS];
            group = new int[MAX_EVENTS];
            time = new int[MAX_EVENTS];
        }

        void add(int newKind, int newGroup, int newTime) {
            kind[next] = newKind;
            group[next] = newGroup;
            time[next] = newTime;
            next = (next + 1) % MAX_EVENTS;
            if (kept < MAX_EVENTS) {
                kept++;
            }
        }

        /** Where an event stands; back is 0 for the latest one. */
        int slotOf(int back) {
            return Math.floorMod(next - 1 - back, MAX_EVENTS);
        }

        void copyFrom(EventLog other) {
            kept = other.kept;
            next = other.next;
            System.arraycopy(other.kind, 0, kind, 0, MAX_EVENTS);
            System.arraycopy(other.group, 0, group, 0, MAX_EVENTS);
            System.arraycopy(other.time, 0, time, 0, MAX_EVENTS);
        }
    }

    /** All that undo brings back and that foretelling works on a copy of. */
    private static final class State {
        int time;
        int policy;
        boolean sharing;
        boolean deadlines;
        int preemptions;
        /** The first group of the latest order. */
        int leader;
        int groupCount;
        final int[] capacity;
        final int[] moved;
        final FlowList draft;
        final Group[] groups;
        final EventLog log;

        State() {
            sharing = true;
            leader = NONE;
            capacity = new int[PORTS];
            Arrays.fill(capacity, FIRST_CAPACITY);
            moved = new int[PORTS];
            draft = new FlowList();
            groups = new Group[MAX_GROUPS];
            for (int i = 0; i < MAX_GROUPS; i++) {
                groups[i] = new Group();
            }
            log = new EventLog();
        }

        void copyFrom(State other) {
            time = other.time;
            policy = other.policy;
            sharing = other.sharing;
            deadlines = other.deadlines;
            preemptions = other.preemptions;
            leader = other.leader;
            groupCount = other.groupCount;
            System.arraycopy(other.capacity, 0, capacity, 0, PORTS);
            System.arraycopy(other.moved, 0, moved, 0, PORTS);
            draft.copyFrom(other.draft);
            for (int i = 0; i < groupCount; i++) {
                groups[i].copyFrom(other.groups[i]);
            }
            log.copyFrom(other.log);
        }

        int makeGroup(int delay, int weight, int deadline, boolean rejected) {
            int number = groupCount;
            if (!isOneOf(number, MAX_GROUPS)) {
                return FULL;
            }
            Group made = groups[number];
            made.arrival = time + delay;
            made.weight = weight;
            made.deadline = deadline;
            made.end = NONE;
            made.rejected = rejected;
            made.flows.copyFrom(draft);
            draft.count = 0;
            groupCount++;
            if (rejected) {
                log.add(EVENT_REJECTED, number, time);
            }
            return number;
        }

        int countGroups(int wanted) {
            int many = 0;
            for (int i = 0; i < groupCount; i++) {
                if (groups[i].stateAt(time) == wanted) {
                    many++;
                }
            }
            return many;
        }

        int countOpen() {
            int many = 0;
            for (int i = 0; i < groupCount; i++) {
                if (groups[i].isOpen()) {
                    many++;
                }
            }
            return many;
        }

        /** The sum of (end minus arrival time) of all groups that are done; NONE if a group is open. */
        int totalWhenAllDone() {
            int sum = 0;
            for (int i = 0; i < groupCount; i++) {
                Group group = groups[i];
                if (group.isOpen()) {
                    return NONE;
                }
                if (!group.rejected) {
                    sum += group.end - group.arrival;
                }
            }
            return sum;
        }
    }

    /** The latest saved states, in a ring. */
    private static final class History {
        int kept;
        int next;
        final State[] saved;

        History() {
            saved = new State[MAX_SAVED];
            for (int i = 0; i < MAX_SAVED; i++) {
                saved[i] = new State();
            }
        }

        void keep(State state) {
            saved[next].copyFrom(state);
            next = (next + 1) % MAX_SAVED;
            if (kept < MAX_SAVED) {
                kept++;
            }
        }

        void bringBack(State state) {
            if (kept == 0) {
                return;
            }
            next = (next + MAX_SAVED - 1) % MAX_SAVED;
            kept--;
            state.copyFrom(saved[next]);
        }
    }

    /** Sums over the flows that use a port, for the admission and the bound. */
    private static final class PortLoads {
        final int[] load;

        PortLoads() {
            load = new int[PORTS];
        }

        private void add(FlowList flows, int flow, int units) {
            load[flows.sender[flow]] += units;
            load[SIDE + flows.receiver[flow]] += units;
        }

        /** Tells if the draft, as a group with this deadline, fits beside what is committed. */
        boolean haveRoomFor(State state, int deadline) {
            Arrays.fill(load, 0);
            for (int i = 0; i < state.groupCount; i++) {
                Group group = state.groups[i];
                if (group.isOpen() && group.deadline > 0) {
                    addCommitted(group, group.deadlineEnd() - Math.max(state.time, group.arrival));
                }
            }
            FlowList draft = state.draft;
            for (int i = 0; i < draft.count; i++) {
                add(draft, i, roundedUp(draft.size[i], deadline));
            }
            for (int port = 0; port < PORTS; port++) {
                if (load[port] > state.capacity[port]) {
                    return false;
                }
            }
            return true;
        }

        private void addCommitted(Group group, int ticksLeft) {
            FlowList flows = group.flows;
            for (int i = 0; i < flows.count; i++) {
                int rest = flows.rest[i];
                add(flows, i, ticksLeft > 0 ? roundedUp(rest, ticksLeft) : rest);
            }
        }

        int boundOf(State state) {
            Arrays.fill(load, 0);
            for (int i = 0; i < state.groupCount; i++) {
                Group group = state.groups[i];
                if (group.isOpen()) {
                    addRests(group.flows);
                }
            }
            int greatest = 0;
            for (int port = 0; port < PORTS; port++) {
                if (load[port] > 0 && state.capacity[port] == 0) {
                    return NONE;
                }
                greatest = Math.max(greatest, roundedUp(load[port], state.capacity[port]));
            }
            return greatest;
        }

        private void addRests(FlowList flows) {
            for (int i = 0; i < flows.count; i++) {
                add(flows, i, flows.rest[i]);
            }
        }

        /** Tells if the bound alone shows that the open groups take more ticks. */
        boolean needMoreThan(State state, int ticks) {
            int bound = boundOf(state);
            return bound == NONE || bound > ticks;
        }
    }

    /** The steps of a tick, done on a given state, and the rows that they work on. */
    private static final class Tick {
        /** At most so many halvings bring a range of spans, up to the greatest size, down to one. */
        private static final int MAX_HALVINGS = 20;
        private static final int DEADLINE_TIER = 0, POLICY_TIER = 1, LAST_TIER = 2;
        /** More than any arrival time, so that a level outweighs it. */
        private static final long LEVEL_STEP = 1000000000L;

        int active;
        final int[] order;
        /** The spans of step 2, by group; only those of active groups are valid. */
        final int[] span;
        final int[] available;
        /** The place of each group in a fixed order, for BY_FIXED_PLACE. */
        final int[] fixedPlace;

        /** Groups are ordered by tier, and within it by number / divisor. */
        private final int[] tier;
        private final long[] number;
        private final int[] divisor;

        private final int[] units;
        private final int[] uses;
        private final int[] load;

        Tick() {
            order = new int[MAX_GROUPS];
            span = new int[MAX_GROUPS];
            available = new int[PORTS];
            fixedPlace = new int[MAX_GROUPS];
            tier = new int[MAX_GROUPS];
            number = new long[MAX_GROUPS];
            divisor = new int[MAX_GROUPS];
            units = new int[PORTS];
            uses = new int[PORTS];
            load = new int[PORTS];
        }

        /**
         * Does a tick. Returns false if nothing was sent and no group was waiting: then the next tick would be
         * the same, and so nothing will ever be sent, if nothing is added or set.
         */
        boolean perform(State state) {
            putInOrder(state);
            boolean someWait = state.countOpen() > active;
            notePreemption(state);
            giveJustRates(state);
            shareSpare(state);
            int sent = sendAll(state);
            state.time++;
            noteDone(state);
            noteLate(state);
            return sent > 0 || someWait;
        }

        /** Step 1. Of equal groups the lower number comes first, since a group goes only before greater ones. */
        void putInOrder(State state) {
            boolean bySpan = state.policy == BY_SPAN || state.policy == BY_WEIGHTED_SPAN;
            active = 0;
            for (int i = 0; i < state.groupCount; i++) {
                Group group = state.groups[i];
                if (group.stateAt(state.time) != ACTIVE) {
                    continue;
                }
                if (state.deadlines && group.deadline > 0) {
                    setKey(i, DEADLINE_TIER, group.deadlineEnd(), 1);
                } else if (bySpan) {
                    setSpanKey(i, spanOf(group.flows, state.capacity), state.policy == BY_SPAN ? 1 : group.weight);
                } else {
                    setKey(i, POLICY_TIER, plainKey(state, i), 1);
                }
                insert(i);
            }
        }

        private void setKey(int group, int newTier, long newNumber, int newDivisor) {
            tier[group] = newTier;
            number[group] = newNumber;
            divisor[group] = newDivisor;
        }

        private void setSpanKey(int group, int loneSpan, int newDivisor) {
            if (loneSpan == NONE) {
                setKey(group, LAST_TIER, 0, 1);
            } else {
                setKey(group, POLICY_TIER, loneSpan, newDivisor);
            }
        }

        private long plainKey(State state, int group) {
            Group asked = state.groups[group];
            switch (state.policy) {
                case BY_ARRIVAL:
                    return asked.arrival;
                case BY_REST:
                    return asked.flows.sumOfRests();
                case BY_FLOWS:
                    return asked.flows.countUndone();
                case BY_LEVEL:
                    return asked.flows.levelReached() * LEVEL_STEP + asked.arrival;
                default:
                    return fixedPlace[group];
            }
        }

        private void insert(int group) {
            int at = active;
            for (; at > 0 && isBefore(group, order[at - 1]); at--) {
                order[at] = order[at - 1];
            }
            order[at] = group;
            active++;
        }

        private boolean isBefore(int group, int other) {
            if (tier[group] != tier[other]) {
                return tier[group] < tier[other];
            }
            return number[group] * divisor[other] < number[other] * divisor[group];
        }

        int placeOf(int group) {
            for (int i = 0; i < active; i++) {
                if (order[i] == group) {
                    return i;
                }
            }
            return NONE;
        }

        private void notePreemption(State state) {
            if (active == 0) {
                return;
            }
            int before = state.leader;
            state.leader = order[0];
            if (before != order[0] && placeOf(before) != NONE) {
                state.preemptions++;
                state.log.add(EVENT_PREEMPTION, before, state.time);
            }
        }

        /** Step 2. */
        void giveJustRates(State state) {
            System.arraycopy(state.capacity, 0, available, 0, PORTS);
            for (int i = 0; i < state.groupCount; i++) {
                Arrays.fill(state.groups[i].flows.rate, 0);
            }
            for (int i = 0; i < active; i++) {
                Group group = state.groups[order[i]];
                int ticks = spanOf(group.flows, available);
                span[order[i]] = ticks;
                if (ticks == NONE) {
                    continue;
                }
                if (state.deadlines && group.deadline > 0) {
                    ticks = Math.max(ticks, group.deadlineEnd() - state.time);
                }
                spread(group.flows, ticks);
            }
        }

        private void spread(FlowList flows, int ticks) {
            for (int i = 0; i < flows.count; i++) {
                raise(flows, i, roundedUp(flows.rest[i], ticks));
            }
        }

        private void raise(FlowList flows, int flow, int more) {
            flows.rate[flow] += more;
            available[flows.sender[flow]] -= more;
            available[SIDE + flows.receiver[flow]] -= more;
        }

        /** Step 3. */
        void shareSpare(State state) {
            if (!state.sharing) {
                return;
            }
            for (int i = 0; i < active; i++) {
                FlowList flows = state.groups[order[i]].flows;
                for (int j = 0; j < flows.count; j++) {
                    int room = Math.min(available[flows.sender[j]], available[SIDE + flows.receiver[j]]);
                    raise(flows, j, Math.min(room, flows.rest[j] - flows.rate[j]));
                }
            }
        }

        private int sendAll(State state) {
            int sent = 0;
            for (int i = 0; i < active; i++) {
                FlowList flows = state.groups[order[i]].flows;
                for (int j = 0; j < flows.count; j++) {
                    int rate = flows.rate[j];
                    flows.rest[j] -= rate;
                    state.moved[flows.sender[j]] += rate;
                    state.moved[SIDE + flows.receiver[j]] += rate;
                    sent += rate;
                }
            }
            return sent;
        }

        private void noteDone(State state) {
            for (int i = 0; i < state.groupCount; i++) {
                Group group = state.groups[i];
                if (group.isOpen() && group.flows.countUndone() == 0) {
                    group.end = state.time;
                    state.log.add(EVENT_DONE, i, state.time);
                }
            }
        }

        private void noteLate(State state) {
            for (int i = 0; i < state.groupCount; i++) {
                Group group = state.groups[i];
                if (group.isOpen() && group.deadline > 0 && group.deadlineEnd() == state.time) {
                    state.log.add(EVENT_LATE, i, state.time);
                }
            }
        }

        /**
         * The span of flows, of which at least one is not done. For a port with n undone flows, the sum s of
         * their rests, and the room a: no G below s / a is enough, and G = (s - n) / (a - n), rounded up, is
         * enough, since r / G, rounded up, is at most (r - 1) / G + 1. The greatest rest is always enough.
         */
        int spanOf(FlowList flows, int[] room) {
            int greatest = addUp(flows);
            int low = 1;
            int high = 1;
            for (int port = 0; port < PORTS; port++) {
                int left = room[port] - uses[port];
                if (left < 0) {
                    return NONE;
                }
                if (uses[port] > 0) {
                    low = Math.max(low, roundedUp(units[port], room[port]));
                    high = Math.max(high, left == 0 ? greatest : roundedUp(units[port] - uses[port], left));
                }
            }
            high = Math.min(high, greatest);
            for (int i = 0; i < MAX_HALVINGS && low < high; i++) {
                int middle = (low + high) / 2;
                if (isEnough(flows, middle, room)) {
                    high = middle;
                } else {
                    low = middle + 1;
                }
            }
            return low;
        }

        /** Sets the sums and numbers of undone flows at each port. Returns the greatest rest. */
        private int addUp(FlowList flows) {
            Arrays.fill(units, 0);
            Arrays.fill(uses, 0);
            int greatest = 0;
            for (int i = 0; i < flows.count; i++) {
                int rest = flows.rest[i];
                if (rest > 0) {
                    int from = flows.sender[i];
                    int to = SIDE + flows.receiver[i];
                    units[from] += rest;
                    units[to] += rest;
                    uses[from]++;
                    uses[to]++;
                    greatest = Math.max(greatest, rest);
                }
            }
            return greatest;
        }

        private boolean isEnough(FlowList flows, int ticks, int[] room) {
            if (ticks < 1) {
                return false;
            }
            Arrays.fill(load, 0);
            for (int i = 0; i < flows.count; i++) {
                int rate = (flows.rest[i] + ticks - 1) / ticks;
                int from = flows.sender[i];
                int to = SIDE + flows.receiver[i];
                load[from] += rate;
                load[to] += rate;
                if (load[from] > room[from] || load[to] > room[to]) {
                    return false;
                }
            }
            return true;
        }
    }

    /** What would happen, found on a copy of the state. */
    private static final class Foretelling {
        final State copy;
        final Tick tick;
        final PortLoads loads;
        int bestTotal;
        final int[] best;
        private boolean bestKnown;
        private final int[] trial;

        Foretelling() {
            copy = new State();
            tick = new Tick();
            loads = new PortLoads();
            best = new int[MAX_ORDERED];
            trial = new int[MAX_ORDERED];
        }

        /** The best order is found once for a state; each change of the state must call this. */
        void forget() {
            bestKnown = false;
        }

        /** Does the steps 1 to 3 on the copy, which has the rates then. */
        void planTick(State now) {
            copy.copyFrom(now);
            tick.putInOrder(copy);
            tick.giveJustRates(copy);
            tick.shareSpare(copy);
        }

        int endOf(State now, int group) {
            copy.copyFrom(now);
            Group asked = copy.groups[group];
            boolean going = asked.isOpen();
            for (int i = 0; i < OUTLOOK_TICKS && going; i++) {
                going = tick.perform(copy) && asked.isOpen();
            }
            return asked.end;
        }

        int totalOf(State now, int policy) {
            if (loads.needMoreThan(now, TOTAL_TICKS)) {
                return NONE;
            }
            copy.copyFrom(now);
            copy.policy = policy;
            return runToTotal();
        }

        private int runToTotal() {
            boolean going = copy.countOpen() > 0;
            for (int i = 0; i < TOTAL_TICKS && going; i++) {
                going = tick.perform(copy) && copy.countOpen() > 0;
            }
            return copy.totalWhenAllDone();
        }

        /** The orders are tried in lexicographic order, so the first one of the least total is kept. */
        void findBestOrder(State now) {
            if (bestKnown) {
                return;
            }
            int many = listOpen(now);
            bestTotal = NONE;
            System.arraycopy(trial, 0, best, 0, MAX_ORDERED);
            boolean more = !loads.needMoreThan(now, TOTAL_TICKS);
            for (int i = 0; i < MAX_ORDERS && more; i++) {
                setUpTrial(now, many);
                int found = runToTotal();
                if (isLess(found, bestTotal)) {
                    bestTotal = found;
                    System.arraycopy(trial, 0, best, 0, MAX_ORDERED);
                }
                more = stepToNextOrder(many);
            }
            bestKnown = true;
        }

        private int listOpen(State now) {
            int many = 0;
            for (int i = 0; i < now.groupCount && many < MAX_ORDERED; i++) {
                if (now.groups[i].isOpen()) {
                    trial[many] = i;
                    many++;
                }
            }
            return many;
        }

        private void setUpTrial(State now, int many) {
            copy.copyFrom(now);
            copy.deadlines = false;
            copy.policy = BY_FIXED_PLACE;
            for (int i = 0; i < many; i++) {
                tick.fixedPlace[trial[i]] = i;
            }
        }

        /** Makes of the trial the lexicographically next order. Returns false if it was the last one. */
        private boolean stepToNextOrder(int many) {
            int turn = many - 2;
            while (turn >= 0 && trial[turn] > trial[turn + 1]) {
                turn--;
            }
            if (turn < 0) {
                return false;
            }
            int other = many - 1;
            while (other > turn && trial[other] < trial[turn]) {
                other--;
            }
            swap(turn, other);
            for (int low = turn + 1, high = many - 1; low < high; low++, high--) {
                swap(low, high);
            }
            return true;
        }

        private void swap(int one, int other) {
            int kept = trial[one];
            trial[one] = trial[other];
            trial[other] = kept;
        }
    }

    /** The text, and the flows that it tells. */
    private static final class FlowText {
        int length;
        private int at;
        private final int[] bytes;
        /** The flows of the text, once it was found to have no fault. */
        final FlowList found;

        FlowText() {
            bytes = new int[MAX_TEXT];
            found = new FlowList();
        }

        boolean append(int code) {
            if (!isOneOf(length, MAX_TEXT)) {
                return false;
            }
            bytes[length] = code;
            length++;
            return true;
        }

        /** Reads the text up to its fault; room is for how many flows the draft has room. */
        int findFault(int room) {
            at = 0;
            found.count = 0;
            boolean more = true;
            for (int i = 0; i < MAX_TEXT && more; i++) {
                if (!takeFlow(room)) {
                    return at;
                }
                skipBlanks();
                more = at < length;
                if (more && !takeSign(',')) {
                    return at;
                }
            }
            return NONE;
        }

        /** Each of the methods that take something leaves the position at the fault if it fails. */
        private boolean takeFlow(int room) {
            skipBlanks();
            if (found.count >= room) {
                return false;
            }
            int sender = takePort();
            if (sender == NONE || !takeSign('>')) {
                return false;
            }
            int receiver = takePort();
            if (receiver == NONE || !takeSign(':')) {
                return false;
            }
            int size = takeSize();
            if (size == NONE) {
                return false;
            }
            found.append(sender, receiver, size);
            return true;
        }

        private void skipBlanks() {
            while (at < length && bytes[at] == BLANK) {
                at++;
            }
        }

        private boolean takeSign(char sign) {
            skipBlanks();
            if (at >= length || bytes[at] != sign) {
                return false;
            }
            at++;
            return true;
        }

        private int takePort() {
            skipBlanks();
            if (at >= length || bytes[at] < '0' || bytes[at] > '7') {
                return NONE;
            }
            int port = bytes[at] - '0';
            at++;
            return port;
        }

        private int takeSize() {
            skipBlanks();
            int first = at;
            int size = 0;
            for (; at < length && bytes[at] >= '0' && bytes[at] <= '9'; at++) {
                if (at - first < MAX_DIGITS) {
                    size = 10 * size + bytes[at] - '0';
                }
            }
            if (at - first > MAX_DIGITS || size < 1 || size > MAX_SIZE) {
                at = first;
                return NONE;
            }
            return size;
        }
    }
}
