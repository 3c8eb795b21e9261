/** Twelve kinds of devices at which scripted threads meet, beat by beat, without any real thread. */
public final class MeetingKit {
    public static final int NONE = -1;

    private static final int MAX_THREADS = 16;
    private static final int MAX_STEPS = 20;
    private static final int MAX_DEVICES = 12;
    private static final int MAX_PLANS = 200;
    private static final int MAX_BEAT = 5000;
    private static final int MAX_PASSED = 300;
    private static final int MAX_PATIENCE = 1000;
    private static final int MAX_ACT = 9;
    private static final int MAX_NUMBER = 1000000;
    private static final int MAX_TAKEN = 100;
    private static final int MAX_PERMITS = 1000;
    private static final int MAX_ROOM = 8;
    private static final int MONITOR_LINES = 4;
    /** Above every beat that a patience can reach to. */
    private static final int NEVER = 1000000;

    private static final int PERMITS = 0;
    private static final int FAIR = 1;
    private static final int GATE = 2;
    private static final int BARRIER = 3;
    private static final int EXCHANGE = 4;
    private static final int LOCK = 5;
    private static final int HAND_OVER = 6;
    private static final int TICKETS = 7;
    private static final int CELL = 8;
    private static final int PHASER = 9;
    private static final int PAUSE = 10;
    private static final int MONITOR = 11;

    /** By kind: the bounds of a device's n. */
    private static final int[] LEAST_N = {0, 0, 0, 1, 0, 0, 0, 0, 0, 0, 0, 0};
    private static final int[] MOST_N = {100, 100, 100, 16, 0, 0, 8, 0, 0, 0, 0, 0};

    private static final int PASSED = 0;
    private static final int WAITS = 1;
    private static final int INTERRUPTED = 2;
    private static final int IMPATIENT = 3;
    private static final int CLOSED = 4;
    private static final int BROKEN = 5;
    private static final int MISUSE = 6;
    private static final int NOT_NOW = 7;
    private static final int NOT_BEGUN = 8;

    private final Actor[] actors = new Actor[MAX_THREADS];
    private int actorCount;
    private final Device[] devices = new Device[MAX_DEVICES];
    private int deviceCount;
    /** Beat times MAX_THREADS plus thread, in rising order: so they come by beats, and in a beat by threads. */
    private final int[] interrupts = new int[MAX_PLANS];
    private int interruptCount;
    private int interruptsDone;
    /** Interrupts and closings together, those that are done too. */
    private int planCount;
    private int reached;

    public MeetingKit() {
    }

    public int device(int kind, int n) {
        if (deviceCount >= MAX_DEVICES || kind < PERMITS || kind > MONITOR) {
            return NONE;
        }
        if (n < LEAST_N[kind] || n > MOST_N[kind]) {
            return NONE;
        }
        devices[deviceCount] = makeDevice(kind, deviceCount, n);
        deviceCount++;
        return deviceCount - 1;
    }

    public int thread() {
        if (actorCount >= MAX_THREADS) {
            return NONE;
        }
        actors[actorCount] = new Actor(actorCount);
        actorCount++;
        return actorCount - 1;
    }

    public int step(int thread, int device, int act, int a, int patience) {
        Actor actor = actorAt(thread);
        Device place = deviceAt(device);
        if (actor == null || place == null || actor.length >= MAX_STEPS) {
            return NONE;
        }
        if (act < 0 || act > MAX_ACT || a < -MAX_NUMBER || a > MAX_NUMBER) {
            return NONE;
        }
        if (patience < 0 || patience > MAX_PATIENCE) {
            return NONE;
        }
        return actor.learn(new Step(actor, place, act, a, patience));
    }

    public boolean interrupt(int thread, int beat) {
        if (actorAt(thread) == null || !canPlanFor(beat)) {
            return false;
        }
        return planInterrupt(beat * MAX_THREADS + thread);
    }

    public boolean close(int device, int beat) {
        Device place = deviceAt(device);
        if (place == null || !canPlanFor(beat) || place.closingBeat != 0) {
            return false;
        }
        place.closingBeat = beat;
        planCount++;
        return true;
    }

    public int run(int until) {
        if (until < reached || until > MAX_BEAT) {
            return NONE;
        }
        for (int played = 0; played < MAX_BEAT && reached < until; played++) {
            int next = nextLivelyBeat();
            if (next == NEVER) {
                return reached;
            }
            if (next > until) {
                reached = until;
            } else {
                reached = next;
                interruptThreads();
                closeDevices();
                endPatience();
                beginSteps();
            }
        }
        return reached;
    }

    public int tell(int thread, int what) {
        Actor actor = actorAt(thread);
        if (actor == null) {
            return NONE;
        }
        switch (what) {
            case 0:
                return actor.length;
            case 1:
                return actor.begun;
            case 2:
                return actor.waitsIn == null ? NONE : actor.waitsIn.device.number;
            case 3:
                return actor.interruptKept ? 1 : 0;
            default:
                return NONE;
        }
    }

    public int outcome(int thread, int i, int what) {
        Actor actor = actorAt(thread);
        Step step = actor == null ? null : actor.stepAt(i);
        if (step == null) {
            return NONE;
        }
        switch (what) {
            case 0:
                return step.outcome;
            case 1:
                return step.outcome == PASSED ? step.value : 0;
            case 2:
                return step.began;
            case 3:
                return step.ended;
            default:
                return NONE;
        }
    }

    public int state(int device, int what) {
        Device place = deviceAt(device);
        if (place == null) {
            return NONE;
        }
        switch (what) {
            case 0:
                return place.kind;
            case 1:
                return place.lineLength;
            case 2:
                return place.closed ? 1 : 0;
            case 3:
                return place.mainState();
            case 4:
                return place.sideState();
            default:
                return NONE;
        }
    }

    public int waiting(int device, int i) {
        Device place = deviceAt(device);
        Step step = place == null ? null : place.waiter(i);
        return step == null ? NONE : step.actor.number;
    }

    public int passed(int device, int i) {
        Device place = deviceAt(device);
        if (place == null || i < 0 || i >= place.passedCount) {
            return NONE;
        }
        return place.passedThreads[i];
    }

    public int stuck(int i) {
        if (nextLivelyBeat() != NEVER) {
            return NONE;
        }
        int found = 0;
        for (int t = 0; t < actorCount; t++) {
            if (actors[t] != null && actors[t].waitsIn != null) {
                if (found == i) {
                    return t;
                }
                found++;
            }
        }
        return NONE;
    }

    private Actor actorAt(int thread) {
        return thread >= 0 && thread < actorCount ? actors[thread] : null;
    }

    private Device deviceAt(int device) {
        return device >= 0 && device < deviceCount ? devices[device] : null;
    }

    private static Device makeDevice(int kind, int number, int n) {
        switch (kind) {
            case PERMITS:
            case FAIR:
                return new Permits(kind, number, n);
            case BARRIER:
                return new Barrier(number, n);
            case EXCHANGE:
                return new Exchange(number);
            case LOCK:
                return new Lock(number);
            case HAND_OVER:
                return new HandOver(number, n);
            case PHASER:
                return new Phaser(number);
            case MONITOR:
                return new Monitor(number);
            default:
                return new Sign(kind, number, n);
        }
    }

    private boolean canPlanFor(int beat) {
        return beat > reached && beat <= MAX_BEAT && planCount < MAX_PLANS;
    }

    private boolean planInterrupt(int plan) {
        if (interruptCount >= interrupts.length) {
            return false;
        }
        int place = interruptCount;
        for (int i = interruptCount - 1; i >= interruptsDone && interrupts[i] >= plan; i--) {
            place = i;
        }
        if (place < interruptCount && interrupts[place] == plan) {
            return false;
        }
        for (int i = interruptCount; i > place; i--) {
            interrupts[i] = interrupts[i - 1];
        }
        interrupts[place] = plan;
        interruptCount++;
        planCount++;
        return true;
    }

    /** In the beats ahead of this one nothing happens at all, so nobody needs to play them. */
    private int nextLivelyBeat() {
        int next = NEVER;
        for (int t = 0; t < actorCount; t++) {
            if (actors[t] != null) {
                next = Math.min(next, actors[t].beatOfNextMove(reached));
            }
        }
        if (interruptsDone < interruptCount) {
            next = Math.min(next, interrupts[interruptsDone] / MAX_THREADS);
        }
        for (int d = 0; d < deviceCount; d++) {
            if (devices[d] != null && !devices[d].closed && devices[d].closingBeat != 0) {
                next = Math.min(next, devices[d].closingBeat);
            }
        }
        return next;
    }

    private void interruptThreads() {
        for (int i = interruptsDone; i < interruptCount; i++) {
            if (interrupts[i] / MAX_THREADS > reached) {
                return;
            }
            interruptsDone = i + 1;
            Actor actor = actorAt(interrupts[i] % MAX_THREADS);
            if (actor == null) {
                continue;
            }
            Step step = actor.waitsIn;
            if (step == null) {
                actor.interruptKept = true;
            } else {
                step.device.giveUp(step, INTERRUPTED, reached);
            }
        }
    }

    private void closeDevices() {
        for (int d = 0; d < deviceCount; d++) {
            if (devices[d] != null && devices[d].closingBeat == reached) {
                devices[d].shut(reached);
            }
        }
    }

    private void endPatience() {
        for (int t = 0; t < actorCount; t++) {
            Step step = actors[t] == null ? null : actors[t].waitsIn;
            if (step != null && step.patience > 0 && reached - step.began >= step.patience) {
                step.device.giveUp(step, IMPATIENT, reached);
            }
        }
    }

    private void beginSteps() {
        for (int t = 0; t < actorCount; t++) {
            Step step = actors[t] == null ? null : actors[t].nextStep(reached);
            if (step != null) {
                step.device.serve(step, reached);
            }
        }
    }

    /** A scripted thread. */
    private static final class Actor {
        final int number;
        private final Step[] script = new Step[MAX_STEPS];
        int length;
        int begun;
        /** The step in which it waits, or null. */
        Step waitsIn;
        boolean interruptKept;
        int lastEnded;

        Actor(int number) {
            this.number = number;
        }

        int learn(Step step) {
            if (length >= script.length) {
                return NONE;
            }
            script[length] = step;
            length++;
            return length;
        }

        Step stepAt(int i) {
            return i >= 0 && i < length ? script[i] : null;
        }

        /** The step that it begins in this beat, counted as begun; null if it begins none. */
        Step nextStep(int beat) {
            Step step = stepAt(begun);
            if (step == null || waitsIn != null || lastEnded >= beat) {
                return null;
            }
            begun++;
            return step;
        }

        int beatOfNextMove(int beat) {
            if (waitsIn == null) {
                return begun < length ? beat + 1 : NEVER;
            }
            return waitsIn.patience > 0 ? waitsIn.began + waitsIn.patience : NEVER;
        }
    }

    private static final class Step {
        final Actor actor;
        final Device device;
        final int act;
        final int number;
        final int patience;
        int outcome = NOT_BEGUN;
        /** Counts only if the step passed: one that waits may have its value laid here early. */
        int value;
        int began;
        int ended;

        Step(Actor actor, Device device, int act, int number, int patience) {
            this.actor = actor;
            this.device = device;
            this.act = act;
            this.number = number;
            this.patience = patience;
        }

        void passWith(int newValue) {
            outcome = PASSED;
            value = newValue;
        }
    }

    /**
     * What all kinds share: the line, who passed, closing. A kind lets those in its line go by giving
     * them another outcome; they stay in the line until sweep, so that the one whose act let
     * them go is noted ahead of them, and so that no kind loops over a line that shrinks.
     */
    private abstract static class Device {
        final int kind;
        final int number;
        int closingBeat;
        boolean closed;
        final Step[] line = new Step[MAX_THREADS];
        int lineLength;
        final int[] passedThreads = new int[MAX_PASSED];
        int passedCount;

        Device(int kind, int number) {
            this.kind = kind;
            this.number = number;
        }

        /** Does a step's act and answers its outcome; a value is laid into the step. */
        abstract int perform(Step step);

        /** Lets those go that the device's state now allows to. */
        void letOthersGo() {
        }

        /** One that waited was interrupted, or its patience was over. */
        void suffer() {
        }

        int mainState() {
            return 0;
        }

        int sideState() {
            return 0;
        }

        final void serve(Step step, int beat) {
            step.began = beat;
            step.outcome = closed ? CLOSED : perform(step);
            if (step.outcome == WAITS && lineLength < line.length) {
                line[lineLength] = step;
                lineLength++;
                step.actor.waitsIn = step;
                if (step.actor.interruptKept) {
                    step.actor.interruptKept = false;
                    giveUp(step, INTERRUPTED, beat);
                }
            } else {
                finish(step, beat);
            }
            letOthersGo();
            sweep(beat);
        }

        final void giveUp(Step step, int outcome, int beat) {
            step.outcome = outcome;
            suffer();
            letOthersGo();
            sweep(beat);
        }

        final void shut(int beat) {
            closed = true;
            endAll(CLOSED);
            sweep(beat);
        }

        final Step waiter(int i) {
            return i >= 0 && i < lineLength ? line[i] : null;
        }

        /** The i-th in the line, or null if it is let go already. */
        final Step stillWaiting(int i) {
            if (i < 0 || i >= lineLength || line[i] == null) {
                return null;
            }
            return line[i].outcome == WAITS ? line[i] : null;
        }

        final Step firstWithAct(int act) {
            for (int i = 0; i < lineLength; i++) {
                Step step = stillWaiting(i);
                if (step != null && step.act == act) {
                    return step;
                }
            }
            return null;
        }

        final void endAll(int outcome) {
            for (int i = 0; i < lineLength; i++) {
                Step step = stillWaiting(i);
                if (step != null) {
                    step.outcome = outcome;
                }
            }
        }

        private void sweep(int beat) {
            int kept = 0;
            for (int i = 0; i < lineLength; i++) {
                Step step = waiter(i);
                if (step == null) {
                    continue;
                }
                if (step.outcome == WAITS) {
                    line[kept] = step;
                    kept++;
                } else {
                    finish(step, beat);
                }
            }
            lineLength = kept;
        }

        private void finish(Step step, int beat) {
            step.ended = beat;
            step.actor.waitsIn = null;
            step.actor.lastEnded = beat;
            if (step.outcome == PASSED && passedCount < passedThreads.length) {
                passedThreads[passedCount] = step.actor.number;
                passedCount++;
            }
        }
    }

    /** Permits, unfair or fair. */
    private static final class Permits extends Device {
        private static final int TAKE = 0;
        private static final int GIVE = 1;
        private static final int TRY = 2;

        private int permits;

        Permits(int kind, int number, int n) {
            super(kind, number);
            permits = n;
        }

        int perform(Step step) {
            if (step.act > TRY || step.number < 1 || step.number > MAX_TAKEN) {
                return MISUSE;
            }
            if (step.act == GIVE) {
                return give(step);
            }
            boolean mustLineUp = kind == FAIR && lineLength > 0;
            if (step.number <= permits && !mustLineUp) {
                take(step);
                return PASSED;
            }
            return step.act == TAKE ? WAITS : NOT_NOW;
        }

        private int give(Step step) {
            if (permits + step.number > MAX_PERMITS) {
                return MISUSE;
            }
            permits += step.number;
            step.value = permits;
            return PASSED;
        }

        private void take(Step step) {
            permits -= step.number;
            step.passWith(permits);
        }

        void letOthersGo() {
            for (int i = 0; i < lineLength; i++) {
                Step step = stillWaiting(i);
                if (step == null) {
                    continue;
                }
                if (step.number <= permits) {
                    take(step);
                } else if (kind == FAIR) {
                    return;
                }
            }
        }

        int mainState() {
            return permits;
        }
    }

    /** Gate, tickets, cell and pause: each waits for a sign, whoever else waits there. */
    private static final class Sign extends Device {
        /** The gate's count, the tickets drawn, 1 if the cell is set, 1 if it is paused. */
        private int main;
        /** The tickets called, what the cell has. */
        private int side;

        Sign(int kind, int number, int n) {
            super(kind, number);
            main = n;
        }

        int perform(Step step) {
            switch (kind) {
                case GATE:
                    return performAtGate(step);
                case TICKETS:
                    return performAtTickets(step);
                case CELL:
                    return performAtCell(step);
                case PAUSE:
                    return performAtPause(step);
                default:
                    return MISUSE;
            }
        }

        private int performAtGate(Step step) {
            switch (step.act) {
                case 0:
                    return lookForSign(step);
                case 1:
                    main = Math.max(0, main - 1);
                    step.value = main;
                    return PASSED;
                default:
                    return MISUSE;
            }
        }

        private int performAtTickets(Step step) {
            switch (step.act) {
                case 0:
                    step.value = main;
                    main++;
                    return PASSED;
                case 1:
                    return step.number < 0 || step.number >= main ? MISUSE : lookForSign(step);
                case 2:
                    if (side >= main) {
                        return NOT_NOW;
                    }
                    step.value = side;
                    side++;
                    return PASSED;
                default:
                    return MISUSE;
            }
        }

        private int performAtCell(Step step) {
            switch (step.act) {
                case 0:
                    if (main == 1) {
                        return MISUSE;
                    }
                    main = 1;
                    side = step.number;
                    return PASSED;
                case 1:
                    return lookForSign(step);
                default:
                    return MISUSE;
            }
        }

        private int performAtPause(Step step) {
            switch (step.act) {
                case 0:
                    main = 1;
                    return PASSED;
                case 1:
                    main = 0;
                    return PASSED;
                case 2:
                    return lookForSign(step);
                default:
                    return MISUSE;
            }
        }

        private int lookForSign(Step step) {
            if (!hasSign(step)) {
                return WAITS;
            }
            step.value = valueBehindSign();
            return PASSED;
        }

        private boolean hasSign(Step step) {
            switch (kind) {
                case TICKETS:
                    return step.number < side;
                case CELL:
                    return main == 1;
                default:
                    return main == 0;
            }
        }

        private int valueBehindSign() {
            return kind == CELL ? side : 0;
        }

        void letOthersGo() {
            for (int i = 0; i < lineLength; i++) {
                Step step = stillWaiting(i);
                if (step != null && hasSign(step)) {
                    step.passWith(valueBehindSign());
                }
            }
        }

        int mainState() {
            return main;
        }

        int sideState() {
            return side;
        }
    }

    private static final class Barrier extends Device {
        private final int parties;
        private boolean broken;

        Barrier(int number, int n) {
            super(BARRIER, number);
            parties = n;
        }

        int perform(Step step) {
            switch (step.act) {
                case 0:
                    return come(step);
                case 1:
                    endAll(BROKEN);
                    broken = false;
                    return PASSED;
                case 2:
                    step.value = broken ? 1 : 0;
                    return PASSED;
                default:
                    return MISUSE;
            }
        }

        private int come(Step step) {
            if (broken) {
                return BROKEN;
            }
            step.value = lineLength;
            if (lineLength + 1 < parties) {
                return WAITS;
            }
            endAll(PASSED);
            return PASSED;
        }

        void suffer() {
            broken = true;
            endAll(BROKEN);
        }

        int mainState() {
            return lineLength;
        }

        int sideState() {
            return broken ? 1 : 0;
        }
    }

    private static final class Exchange extends Device {
        Exchange(int number) {
            super(EXCHANGE, number);
        }

        int perform(Step step) {
            if (step.act != 0) {
                return MISUSE;
            }
            Step other = waiter(0);
            if (other == null) {
                return WAITS;
            }
            step.value = other.number;
            other.passWith(step.number);
            return PASSED;
        }
    }

    /** A lock with many lookers or one user. */
    private static final class Lock extends Device {
        private static final int LOOK = 0;
        private static final int USE = 1;
        private static final int LEAVE = 2;
        private static final int UPGRADE = 3;
        private static final int DOWNGRADE = 4;

        private final boolean[] looks = new boolean[MAX_THREADS];
        private int lookers;
        private int user = NONE;

        Lock(int number) {
            super(LOCK, number);
        }

        int perform(Step step) {
            switch (step.act) {
                case LOOK:
                case USE:
                    return enter(step);
                case LEAVE:
                    return leave(step.actor.number);
                case UPGRADE:
                    return upgrade(step.actor.number);
                case DOWNGRADE:
                    return downgrade(step.actor.number);
                default:
                    return MISUSE;
            }
        }

        private int enter(Step step) {
            int thread = step.actor.number;
            if (looks[thread] || user == thread) {
                return MISUSE;
            }
            if (lineLength > 0 || !isFreeFor(step)) {
                return WAITS;
            }
            admit(step);
            return PASSED;
        }

        private boolean isFreeFor(Step step) {
            return user == NONE && (step.act == LOOK || lookers == 0);
        }

        private void admit(Step step) {
            if (step.act == LOOK) {
                addLooker(step.actor.number);
            } else {
                user = step.actor.number;
            }
        }

        private void addLooker(int thread) {
            looks[thread] = true;
            lookers++;
        }

        private void dropLooker(int thread) {
            looks[thread] = false;
            lookers--;
        }

        private int leave(int thread) {
            if (looks[thread]) {
                dropLooker(thread);
                return PASSED;
            }
            if (user == thread) {
                user = NONE;
                return PASSED;
            }
            return MISUSE;
        }

        private int upgrade(int thread) {
            if (!looks[thread] || firstWithAct(UPGRADE) != null) {
                return MISUSE;
            }
            if (lookers > 1) {
                return WAITS;
            }
            makeUser(thread);
            return PASSED;
        }

        private void makeUser(int looker) {
            dropLooker(looker);
            user = looker;
        }

        private int downgrade(int thread) {
            if (user != thread) {
                return MISUSE;
            }
            user = NONE;
            addLooker(thread);
            return PASSED;
        }

        void letOthersGo() {
            Step upgrader = firstWithAct(UPGRADE);
            if (upgrader == null) {
                admitFromFirstOn();
            } else if (lookers == 1) {
                makeUser(upgrader.actor.number);
                upgrader.passWith(0);
            }
        }

        private void admitFromFirstOn() {
            for (int i = 0; i < lineLength; i++) {
                Step step = stillWaiting(i);
                if (step == null) {
                    continue;
                }
                if (!isFreeFor(step)) {
                    return;
                }
                admit(step);
                step.passWith(0);
            }
        }

        int mainState() {
            return lookers;
        }

        int sideState() {
            return user;
        }
    }

    /** A hand-over of bounded room. */
    private static final class HandOver extends Device {
        private static final int PUT = 0;
        private static final int TAKE = 1;

        private final int room;
        private final int[] goods = new int[MAX_ROOM];
        private int lying;

        HandOver(int number, int n) {
            super(HAND_OVER, number);
            room = Math.min(n, MAX_ROOM);
        }

        int perform(Step step) {
            switch (step.act) {
                case PUT:
                    return put(step);
                case TAKE:
                    return take(step);
                default:
                    return MISUSE;
            }
        }

        private int put(Step step) {
            Step taker = firstWithAct(TAKE);
            if (taker != null) {
                taker.passWith(step.number);
                return PASSED;
            }
            return lay(step.number) ? PASSED : WAITS;
        }

        private boolean lay(int good) {
            if (lying >= room) {
                return false;
            }
            goods[lying] = good;
            lying++;
            return true;
        }

        private int take(Step step) {
            Step putter = firstWithAct(PUT);
            if (lying > 0) {
                step.value = pickUp();
                if (putter != null && lay(putter.number)) {
                    putter.passWith(0);
                }
                return PASSED;
            }
            if (putter == null) {
                return WAITS;
            }
            step.value = putter.number;
            putter.passWith(0);
            return PASSED;
        }

        private int pickUp() {
            int first = goods[0];
            for (int i = 1; i < lying; i++) {
                goods[i - 1] = goods[i];
            }
            lying--;
            return first;
        }

        int mainState() {
            return lying;
        }
    }

    private static final class Phaser extends Device {
        private static final int OUTSIDE = 0;
        private static final int PARTY = 1;
        private static final int FROM_NEXT_PHASE_ON = 2;

        /** By threads. */
        private final int[] roles = new int[MAX_THREADS];
        private final boolean[] came = new boolean[MAX_THREADS];
        private int phase;

        Phaser(int number) {
            super(PHASER, number);
        }

        int perform(Step step) {
            switch (step.act) {
                case 0:
                    return join(step);
                case 1:
                    return come(step);
                case 2:
                    return leave(step);
                default:
                    return MISUSE;
            }
        }

        private int join(Step step) {
            int thread = step.actor.number;
            if (roles[thread] != OUTSIDE) {
                return MISUSE;
            }
            roles[thread] = countParties(true) > 0 ? FROM_NEXT_PHASE_ON : PARTY;
            step.value = phase;
            return PASSED;
        }

        private int come(Step step) {
            int thread = step.actor.number;
            if (roles[thread] != PARTY || came[thread]) {
                return MISUSE;
            }
            came[thread] = true;
            boolean isLast = allCame();
            if (isLast) {
                beginPhase();
            }
            step.value = phase;
            return isLast ? PASSED : WAITS;
        }

        private int leave(Step step) {
            int thread = step.actor.number;
            if (roles[thread] == OUTSIDE) {
                return MISUSE;
            }
            roles[thread] = OUTSIDE;
            came[thread] = false;
            if (allCame()) {
                beginPhase();
            }
            step.value = phase;
            return PASSED;
        }

        private int countParties(boolean onlyThoseThatCame) {
            int count = 0;
            for (int t = 0; t < MAX_THREADS; t++) {
                if (roles[t] == PARTY && (came[t] || !onlyThoseThatCame)) {
                    count++;
                }
            }
            return count;
        }

        private boolean allCame() {
            int parties = countParties(false);
            return parties > 0 && countParties(true) == parties;
        }

        private void beginPhase() {
            phase++;
            for (int t = 0; t < MAX_THREADS; t++) {
                came[t] = false;
                if (roles[t] == FROM_NEXT_PHASE_ON) {
                    roles[t] = PARTY;
                }
            }
            for (int i = 0; i < lineLength; i++) {
                Step step = stillWaiting(i);
                if (step != null) {
                    step.passWith(phase);
                }
            }
        }

        int mainState() {
            return phase;
        }

        int sideState() {
            return countParties(false);
        }
    }

    /** A monitor with lines. */
    private static final class Monitor extends Device {
        private static final int TO_ENTER = -1;

        /** By threads: the line in which one waits, or TO_ENTER. */
        private final int[] places = new int[MAX_THREADS];
        private int holder = NONE;

        Monitor(int number) {
            super(MONITOR, number);
        }

        int perform(Step step) {
            boolean holds = holder == step.actor.number;
            if (step.act == 0) {
                return holds ? MISUSE : enter(step.actor.number);
            }
            if (!holds) {
                return MISUSE;
            }
            if (step.act == 1) {
                holder = NONE;
                return PASSED;
            }
            return step.number < 0 || step.number >= MONITOR_LINES ? MISUSE : performInLine(step);
        }

        private int enter(int thread) {
            if (holder == NONE && firstPlaceOf(TO_ENTER) == NONE) {
                holder = thread;
                return PASSED;
            }
            places[thread] = TO_ENTER;
            return WAITS;
        }

        private int performInLine(Step step) {
            switch (step.act) {
                case 2:
                    holder = NONE;
                    places[step.actor.number] = step.number;
                    return WAITS;
                case 3:
                    step.value = wake(step.number, 1);
                    return PASSED;
                case 4:
                    step.value = wake(step.number, MAX_THREADS);
                    return PASSED;
                default:
                    return MISUSE;
            }
        }

        /** Where in the line the first is that waits in one of the monitor's lines, or to enter. */
        private int firstPlaceOf(int monitorLine) {
            for (int i = 0; i < lineLength; i++) {
                Step step = stillWaiting(i);
                if (step != null && places[step.actor.number] == monitorLine) {
                    return i;
                }
            }
            return NONE;
        }

        private int wake(int monitorLine, int most) {
            int woken = 0;
            for (int turn = 0; turn < most; turn++) {
                int i = firstPlaceOf(monitorLine);
                Step step = waiter(i);
                if (step == null) {
                    return woken;
                }
                moveToEnd(i);
                places[step.actor.number] = TO_ENTER;
                woken++;
            }
            return woken;
        }

        private void moveToEnd(int from) {
            Step step = waiter(from);
            if (step == null) {
                return;
            }
            for (int i = from; i < lineLength - 1; i++) {
                line[i] = line[i + 1];
            }
            line[lineLength - 1] = step;
        }

        void letOthersGo() {
            Step step = holder == NONE ? waiter(firstPlaceOf(TO_ENTER)) : null;
            if (step != null) {
                holder = step.actor.number;
                step.passWith(0);
            }
        }

        int mainState() {
            return holder == NONE ? 0 : 1;
        }

        int sideState() {
            return holder;
        }
    }
}
