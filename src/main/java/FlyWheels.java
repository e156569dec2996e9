/**
 * Flywheels on one shaft. The promises are in the document (DOC.md); the rules
 * this file keeps to are in LANGUAGE.md. No call makes an object: all rows are
 * made by the constructor and used again.
 */
public final class FlyWheels {
    public static final int BAD = -1, STATE = -2, FULL = -3, NONE = -4;

    private static final int MOST_WHEELS = 4, MOST_ACTS = 16, MOST_SEEN = 6;
    private static final int MOST_BYTES = 160, MOST_SHEETS = 4, MOST_CELLS = 40, MOST_IMAGES = 2;
    private static final int MOST_KIND = 3, MOST_MASS = 20, MOST_LOSS = 9, FIRST_SHAFT_MASS = 5;
    private static final int PLAIN = 0, SLIP = 1, TAKE = 2, SOFT_STEP = 20;
    private static final int LOADS = 100, JOINS = 200, MOST_ACT = 203;
    // An act that changes nothing stands in for one that is not done.
    private static final int IDLE = 0;
    private static final int MOST_AHEAD = 200, MOST_LOOK = 40, TICKS_AT_ONCE = 100, TICK_END = 10000;
    private static final int MOST_SET_SWING = 9999, MOST_SEEN_SWING = 9999999;
    private static final int MOST_LUCK_TICKS = 8, TENTHS = 10;
    private static final int BYTES = 0, SHORTS = 1, MOST_LANE = 2;
    private static final int NULL_FAULT = 1, INDEX_FAULT = 2, CAST_FAULT = 3, SIZE_FAULT = 4;

    private final Rig now = new Rig();
    // Questions run on a rig of their own, so that asking changes nothing.
    private final Rig trial = new Rig();
    // A text is told here first: what there is must stay if it has a fault.
    private final Rig told = new Rig();
    private final Rig[] images = new Rig[MOST_IMAGES];
    private final boolean[] kept = new boolean[MOST_IMAGES];
    private final Tape tape = new Tape();
    private final Sheet[] sheets = new Sheet[MOST_SHEETS];
    private final int[] seenTicks = new int[MOST_SEEN];
    private final int[] seenWheel = new int[MOST_SEEN];
    private final int[] seenSwing = new int[MOST_SEEN];
    private int seenCount = 0;
    private int textFault = 0;
    private int readFault = 0;
    // What the wheel asked about swings: a row of MOST_LOOK + 1 ticks for each loss.
    private final int[] looks = new int[(MOST_LOSS + 1) * (MOST_LOOK + 1)];

    public FlyWheels() {
        for (int k = 0; k < MOST_IMAGES; k++) {
            images[k] = new Rig();
        }
        for (int k = 0; k < MOST_SHEETS; k++) {
            sheets[k] = new Sheet();
        }
    }

    // ---- the text, what there is

    public int feed(int c) {
        if (!within(c, 0, 127)) {
            return BAD;
        }
        return tape.append(c);
    }

    public int end(int n) {
        if (!within(n, 0, tape.length)) {
            return BAD;
        }
        int had = tape.length;
        tape.length = n;
        return had;
    }

    public int text() {
        int answer = tape.tell(told);
        textFault = tape.wrong;
        tape.length = 0;
        if (textFault == 0) {
            now.become(told);
            seenCount = 0;
            for (int k = 0; k < MOST_IMAGES; k++) {
                kept[k] = false;
            }
        }
        return answer;
    }

    public int fault() {
        return textFault;
    }

    public int rule(int what) {
        switch (what) {
            case 0:
                return now.wheels;
            case 1:
                return now.acts;
            case 2:
                return now.tick;
            case 3:
                return now.done;
            case 4:
                return now.lack;
            case 5:
                return now.shaftMass;
            case 6:
                return now.shaftSwing;
            case 7:
                return now.shaftSpeed();
            case 8:
                return now.acts > 0 ? now.dueAct() : NONE;
            default:
                return BAD;
        }
    }

    public int wheel(int w, int what) {
        if (!now.hasWheel(w)) {
            return BAD;
        }
        switch (what) {
            case 0:
                return now.kinds[w];
            case 1:
                return now.masses[w];
            case 2:
                return now.losses[w];
            case 3:
                return now.swings[w];
            case 4:
                return quotient(now.swings[w], now.masses[w]);
            case 5:
                return now.joinedSwing(w);
            default:
                return BAD;
        }
    }

    public int act(int i) {
        return now.hasAct(i) ? now.plan[i] : BAD;
    }

    // ---- what is changed

    public int alter(int w, int what, int v) {
        if (!now.hasWheel(w)) {
            return BAD;
        }
        switch (what) {
            case 0:
                return within(v, 0, MOST_KIND) ? replace(now.kinds, w, v) : BAD;
            case 1:
                return within(v, 1, MOST_MASS) ? replace(now.masses, w, v) : BAD;
            case 2:
                return within(v, 0, MOST_LOSS) ? replace(now.losses, w, v) : BAD;
            case 3:
                return within(v, 0, MOST_SET_SWING) ? replace(now.swings, w, v) : BAD;
            default:
                return BAD;
        }
    }

    public int shaft(int v) {
        if (!within(v, 1, MOST_MASS)) {
            return BAD;
        }
        int was = now.shaftMass;
        now.shaftMass = v;
        return was;
    }

    public int put(int kind, int mass, int loss) {
        if (!within(kind, 0, MOST_KIND) || !within(mass, 1, MOST_MASS) || !within(loss, 0, MOST_LOSS)) {
            return BAD;
        }
        return now.appendWheel(kind, mass, loss);
    }

    public int cut(int n) {
        if (!within(n, 0, now.wheels)) {
            return BAD;
        }
        int had = now.wheels;
        now.wheels = n;
        return had;
    }

    public int set(int i, int v) {
        if (!now.hasAct(i) || !within(v, 0, MOST_ACT)) {
            return BAD;
        }
        return replace(now.plan, i, v);
    }

    public int add(int v) {
        return addAct(v);
    }

    public int drop(int n) {
        if (!within(n, 0, now.acts)) {
            return BAD;
        }
        int had = now.acts;
        now.acts = n;
        return had;
    }

    public int turn(int v) {
        if (!within(v, 0, MOST_ACT)) {
            return BAD;
        }
        if (v >= JOINS && !now.hasWheel(v - JOINS)) {
            return STATE;
        }
        now.perform(v);
        return now.shaftSwing;
    }

    // ---- ticks

    public int ticks(int n) {
        if (!within(n, 0, TICKS_AT_ONCE)) {
            return BAD;
        }
        if (now.tick + n >= TICK_END) {
            return FULL;
        }
        int before = now.done;
        now.runTicks(n);
        return now.done - before;
    }

    public int runs(int n, int what) {
        if (!within(n, 0, MOST_AHEAD) || !within(what, 0, 4)) {
            return BAD;
        }
        trial.startAs(now);
        int fastest = trial.shaftSpeed();
        for (int t = 0; t < n; t++) {
            trial.passTick(trial.dueAct());
            fastest = Math.max(fastest, trial.shaftSpeed());
        }
        switch (what) {
            case 0:
                return trial.done;
            case 1:
                return trial.lack;
            case 2:
                return trial.lost;
            case 3:
                return trial.allSwing();
            default:
                return fastest;
        }
    }

    public int ahead(int w, int n) {
        if (!now.hasWheel(w) || !within(n, 0, MOST_AHEAD)) {
            return BAD;
        }
        trial.startAs(now);
        trial.runTicks(n);
        return trial.swings[w];
    }

    public int when(int w) {
        if (!now.hasWheel(w)) {
            return BAD;
        }
        trial.startAs(now);
        for (int t = 0; t <= MOST_AHEAD; t++) {
            if (trial.swings[w] == 0) {
                return t;
            }
            trial.passTick(trial.dueAct());
        }
        return NONE;
    }

    public int again() {
        trial.startAs(now);
        for (int t = 1; t <= MOST_AHEAD; t++) {
            trial.passTick(trial.dueAct());
            if (trial.dueNumber() == now.dueNumber() && trial.swingsAs(now)) {
                return t;
            }
        }
        return NONE;
    }

    // ---- what is best

    public int mass(int w, int n, int what) {
        if (!now.hasWheel(w) || !asksBest(n, what)) {
            return BAD;
        }
        int best = 0;
        int most = -1;
        for (int m = 1; m <= MOST_MASS; m++) {
            trial.startAs(now);
            trial.masses[w] = m;
            trial.runTicks(n);
            if (trial.done > most) {
                most = trial.done;
                best = m;
            }
        }
        return what == 0 ? best : most;
    }

    public int kind(int w, int n, int what) {
        if (!now.hasWheel(w) || !asksBest(n, what)) {
            return BAD;
        }
        int best = 0;
        int most = -1;
        for (int k = 0; k <= MOST_KIND; k++) {
            trial.startAs(now);
            trial.kinds[w] = k;
            trial.runTicks(n);
            if (trial.done > most) {
                most = trial.done;
                best = k;
            }
        }
        return what == 0 ? best : most;
    }

    public int bears(int w, int n) {
        if (!now.hasWheel(w) || !within(n, 0, MOST_AHEAD)) {
            return BAD;
        }
        for (int loss = MOST_LOSS; loss >= 0; loss--) {
            trial.startAs(now);
            trial.losses[w] = loss;
            trial.runTicks(n);
            if (trial.lack == 0) {
                return loss;
            }
        }
        return NONE;
    }

    public int swap(int n, int what) {
        if (!asksBest(n, what)) {
            return BAD;
        }
        int best = NONE;
        int most = doneAsItIs(n);
        for (int i = 0; i < now.acts; i++) {
            for (int j = i + 1; j < now.acts; j++) {
                // Like acts changing places change nothing: saves the dearest call most runs.
                if (now.plan[i] != now.plan[j]) {
                    int done = doneSwapped(i, j, n);
                    if (done > most) {
                        most = done;
                        best = 100 * i + j;
                    }
                }
            }
        }
        return best == NONE || what == 0 ? best : most;
    }

    public int omit(int n, int what) {
        if (!asksBest(n, what)) {
            return BAD;
        }
        int best = NONE;
        int most = doneAsItIs(n);
        for (int i = 0; i < now.acts; i++) {
            trial.startAs(now);
            trial.plan[i] = IDLE;
            trial.runTicks(n);
            if (trial.done > most) {
                most = trial.done;
                best = i;
            }
        }
        return best == NONE || what == 0 ? best : most;
    }

    public int off(int n, int what) {
        if (!asksBest(n, what)) {
            return BAD;
        }
        int best = NONE;
        int most = doneAsItIs(n);
        for (int w = 0; w < now.wheels; w++) {
            trial.startAs(now);
            trial.neverJoin(w);
            trial.runTicks(n);
            if (trial.done > most) {
                most = trial.done;
                best = w;
            }
        }
        return best == NONE || what == 0 ? best : most;
    }

    // ---- drives that fail

    public long luck(int v, int n, int what) {
        if (!asksOdds(v, n, what)) {
            return BAD;
        }
        long fit = 0;
        for (int fails = 0; fails < 1 << n; fails++) {
            runFailing(fails, n);
            if (trial.lack == 0) {
                fit += weightOf(fails, v, n);
            }
        }
        return partOfFraction(fit, allWeights(n), what);
    }

    public long mean(int v, int n, int what) {
        if (!asksOdds(v, n, what)) {
            return BAD;
        }
        long sum = 0;
        for (int fails = 0; fails < 1 << n; fails++) {
            runFailing(fails, n);
            sum += trial.done * weightOf(fails, v, n);
        }
        return partOfFraction(sum, allWeights(n), what);
    }

    // ---- what was seen

    public int see(int n, int w, int v) {
        if (!within(n, 0, MOST_LOOK) || !now.hasWheel(w) || !within(v, 0, MOST_SEEN_SWING)) {
            return BAD;
        }
        if (seenCount >= MOST_SEEN) {
            return FULL;
        }
        seenTicks[seenCount] = n;
        seenWheel[seenCount] = w;
        seenSwing[seenCount] = v;
        seenCount++;
        return seenCount;
    }

    public int forget(int n) {
        if (!within(n, 0, seenCount)) {
            return BAD;
        }
        int had = seenCount;
        seenCount = n;
        return had;
    }

    public int kinds(int w) {
        if (!now.hasWheel(w)) {
            return BAD;
        }
        int bits = 0;
        for (int k = 0; k <= MOST_KIND; k++) {
            trial.startAs(now);
            trial.kinds[w] = k;
            if (trialGoesAsSeen()) {
                bits |= 1 << k;
            }
        }
        return bits;
    }

    public int losses(int w) {
        return now.hasWheel(w) ? fittingLosses(w) : BAD;
    }

    public int ask(int w, int what) {
        if (!now.hasWheel(w) || !within(what, 0, 1)) {
            return BAD;
        }
        int fitting = fittingLosses(w);
        lookAhead(w, fitting);
        int best = NONE;
        int fewest = Integer.bitCount(fitting);
        for (int t = 0; t <= MOST_LOOK; t++) {
            int left = leftAtWorst(t, fitting);
            if (left < fewest) {
                fewest = left;
                best = t;
            }
        }
        return best == NONE || what == 0 ? best : fewest;
    }

    // ---- by a seed

    public int drift(int seed, int n, int what) {
        if (!within(n, 1, MOST_AHEAD) || !within(what, 0, 1)) {
            return BAD;
        }
        if (now.wheels == 0) {
            return STATE;
        }
        trial.startAs(now);
        int s = seed;
        for (int t = 0; t < n; t++) {
            s = s * 1103515245 + 12345;
            int got = (s >>> 16) & 32767;
            trial.passTick(got % (MOST_ACT + 1));
        }
        return what == 0 ? trial.done : trial.allSwing();
    }

    // ---- images, sheets

    public int keep(int k) {
        if (!within(k, 0, MOST_IMAGES - 1)) {
            return BAD;
        }
        int had = kept[k] ? 1 : 0;
        images[k].become(now);
        kept[k] = true;
        return had;
    }

    public int back(int k) {
        if (!within(k, 0, MOST_IMAGES - 1)) {
            return BAD;
        }
        if (!kept[k]) {
            return STATE;
        }
        now.become(images[k]);
        return now.tick;
    }

    public int sheet(int k, int lane, int n) {
        if (!within(k, 0, MOST_SHEETS - 1) || !within(lane, 0, MOST_LANE) || n > MOST_CELLS) {
            return BAD;
        }
        if (n < 0) {
            return -10 - SIZE_FAULT;
        }
        sheets[k].renew(lane, n);
        return 1;
    }

    public int lay(int k, int i, int v) {
        if (!within(k, 0, MOST_SHEETS - 1)) {
            return BAD;
        }
        Sheet row = sheets[k];
        int found = row.faultAt(row.lane, i);
        if (found != 0) {
            return -10 - found;
        }
        row.write(i, v);
        return 1;
    }

    public int read(int k, int lane, int f, int n) {
        if (!within(k, 0, MOST_SHEETS - 1) || !within(lane, 0, MOST_LANE) || !within(n, 0, MOST_CELLS)) {
            return BAD;
        }
        Sheet row = sheets[k];
        int had = now.acts;
        int found = 0;
        int came = 0;
        for (int i = 0; i < n && found == 0; i++) {
            // The first cell outside ends the reading, so f + i never wraps round to a cell.
            found = row.faultAt(lane, f + i);
            if (found == 0) {
                if (addAct(row.cells[f + i]) < 0) {
                    now.acts = had;
                    return -20 - i;
                }
                came++;
            }
        }
        readFault = found;
        return came;
    }

    public int torn() {
        return readFault;
    }

    public int count(int what) {
        switch (what) {
            case 0:
                return seenCount;
            case 1:
                return (kept[0] ? 1 : 0) + (kept[1] ? 1 : 0);
            case 2:
                return tape.length;
            case 3:
                return sheets[0].made ? sheets[0].size : NONE;
            case 4:
                return now.sumOfWheels(now.masses);
            case 5:
                return now.sumOfWheels(now.losses);
            default:
                return BAD;
        }
    }

    // ---- what several calls need

    private static boolean within(int v, int least, int most) {
        return v >= least && v <= most;
    }

    private static int quotient(int amount, int divisor) {
        return divisor > 0 ? amount / divisor : 0;
    }

    private static int replace(int[] row, int i, int v) {
        int was = row[i];
        row[i] = v;
        return was;
    }

    private int addAct(int v) {
        return within(v, 0, MOST_ACT) ? now.appendAct(v) : BAD;
    }

    private static boolean asksBest(int n, int what) {
        return within(n, 0, MOST_AHEAD) && within(what, 0, 1);
    }

    private int doneAsItIs(int n) {
        trial.startAs(now);
        trial.runTicks(n);
        return trial.done;
    }

    private int doneSwapped(int i, int j, int n) {
        trial.startAs(now);
        trial.plan[i] = now.plan[j];
        trial.plan[j] = now.plan[i];
        trial.runTicks(n);
        return trial.done;
    }

    private static boolean asksOdds(int v, int n, int what) {
        return within(v, 0, TENTHS) && within(n, 0, MOST_LUCK_TICKS) && within(what, 0, 1);
    }

    /** Bit t of fails: in tick t drives fail. */
    private void runFailing(int fails, int n) {
        trial.startAs(now);
        for (int t = 0; t < n; t++) {
            int due = trial.dueAct();
            boolean fail = (fails >> t & 1) == 1 && due < LOADS;
            trial.passTick(fail ? IDLE : due);
        }
    }

    private static long weightOf(int fails, int v, int n) {
        long weight = 1;
        for (int t = 0; t < n; t++) {
            weight *= (fails >> t & 1) == 1 ? v : TENTHS - v;
        }
        return weight;
    }

    private static long allWeights(int n) {
        long all = 1;
        for (int t = 0; t < n; t++) {
            all *= TENTHS;
        }
        return all;
    }

    private static long partOfFraction(long above, long below, int what) {
        long a = above;
        long b = below;
        // Euclid's steps for numbers below 2^63 are fewer than 100.
        for (int step = 0; step < 100 && b != 0; step++) {
            long rest = a % b;
            a = b;
            b = rest;
        }
        long part = what == 0 ? above : below;
        return a > 0 ? part / a : part;
    }

    private int fittingLosses(int w) {
        int bits = 0;
        for (int loss = 0; loss <= MOST_LOSS; loss++) {
            trial.startAs(now);
            trial.losses[w] = loss;
            if (trialGoesAsSeen()) {
                bits |= 1 << loss;
            }
        }
        return bits;
    }

    private boolean trialGoesAsSeen() {
        int last = 0;
        for (int s = 0; s < seenCount; s++) {
            last = Math.max(last, seenTicks[s]);
        }
        for (int t = 0; t <= last; t++) {
            if (!trialIsAsSeen(t)) {
                return false;
            }
            trial.passTick(trial.dueAct());
        }
        return true;
    }

    private boolean trialIsAsSeen(int t) {
        for (int s = 0; s < seenCount; s++) {
            int w = seenWheel[s];
            if (seenTicks[s] == t && (!trial.hasWheel(w) || trial.swings[w] != seenSwing[s])) {
                return false;
            }
        }
        return true;
    }

    private void lookAhead(int w, int fitting) {
        for (int loss = 0; loss <= MOST_LOSS; loss++) {
            if ((fitting >> loss & 1) == 1) {
                trial.startAs(now);
                trial.losses[w] = loss;
                for (int t = 0; t <= MOST_LOOK; t++) {
                    looks[loss * (MOST_LOOK + 1) + t] = trial.swings[w];
                    trial.passTick(trial.dueAct());
                }
            }
        }
    }

    private int leftAtWorst(int t, int fitting) {
        int worst = 0;
        for (int loss = 0; loss <= MOST_LOSS; loss++) {
            if ((fitting >> loss & 1) == 1) {
                worst = Math.max(worst, lossesLookingLike(loss, t, fitting));
            }
        }
        return worst;
    }

    private int lossesLookingLike(int loss, int t, int fitting) {
        int look = looks[loss * (MOST_LOOK + 1) + t];
        int alike = 0;
        for (int other = 0; other <= MOST_LOSS; other++) {
            if ((fitting >> other & 1) == 1 && looks[other * (MOST_LOOK + 1) + t] == look) {
                alike++;
            }
        }
        return alike;
    }

    /** The shaft, its wheels, the plan of acts and what the ticks came to. */
    private static final class Rig {
        int shaftMass = FIRST_SHAFT_MASS;
        int shaftSwing = 0;
        int wheels = 0;
        final int[] kinds = new int[MOST_WHEELS];
        final int[] masses = new int[MOST_WHEELS];
        final int[] losses = new int[MOST_WHEELS];
        final int[] swings = new int[MOST_WHEELS];
        int acts = 0;
        final int[] plan = new int[MOST_ACTS];
        int tick = 0;
        int done = 0;
        int lack = 0;
        int lost = 0;

        void clear() {
            shaftMass = FIRST_SHAFT_MASS;
            shaftSwing = 0;
            wheels = 0;
            acts = 0;
            tick = 0;
            clearSums();
        }

        void clearSums() {
            done = 0;
            lack = 0;
            lost = 0;
        }

        void become(Rig other) {
            shaftMass = other.shaftMass;
            shaftSwing = other.shaftSwing;
            wheels = other.wheels;
            for (int w = 0; w < MOST_WHEELS; w++) {
                kinds[w] = other.kinds[w];
                masses[w] = other.masses[w];
                losses[w] = other.losses[w];
                swings[w] = other.swings[w];
            }
            acts = other.acts;
            for (int i = 0; i < MOST_ACTS; i++) {
                plan[i] = other.plan[i];
            }
            tick = other.tick;
            done = other.done;
            lack = other.lack;
            lost = other.lost;
        }

        /** As another rig stands, with the sums of the ticks to come at 0. */
        void startAs(Rig other) {
            become(other);
            clearSums();
        }

        boolean hasWheel(int w) {
            return w >= 0 && w < wheels;
        }

        boolean hasAct(int i) {
            return i >= 0 && i < acts;
        }

        int appendWheel(int kind, int mass, int loss) {
            if (wheels >= MOST_WHEELS) {
                return FULL;
            }
            kinds[wheels] = kind;
            masses[wheels] = mass;
            losses[wheels] = loss;
            swings[wheels] = 0;
            wheels++;
            return wheels;
        }

        int appendAct(int v) {
            if (acts >= MOST_ACTS) {
                return FULL;
            }
            plan[acts] = v;
            acts++;
            return acts;
        }

        int shaftSpeed() {
            return quotient(shaftSwing, shaftMass);
        }

        int allSwing() {
            return shaftSwing + sumOfWheels(swings);
        }

        int sumOfWheels(int[] row) {
            int sum = 0;
            for (int w = 0; w < wheels; w++) {
                sum += row[w];
            }
            return sum;
        }

        boolean swingsAs(Rig other) {
            if (shaftSwing != other.shaftSwing || wheels != other.wheels) {
                return false;
            }
            for (int w = 0; w < wheels; w++) {
                if (swings[w] != other.swings[w]) {
                    return false;
                }
            }
            return true;
        }

        /** The number of the act whose turn it is; 0 too where there are none. */
        int dueNumber() {
            return acts > 0 ? tick % acts : 0;
        }

        int dueAct() {
            return acts > 0 ? plan[dueNumber()] : IDLE;
        }

        void neverJoin(int w) {
            for (int i = 0; i < acts; i++) {
                if (plan[i] == JOINS + w) {
                    plan[i] = IDLE;
                }
            }
        }

        void perform(int v) {
            if (v < LOADS) {
                shaftSwing += v;
            } else if (v < JOINS) {
                takeLoad(v - LOADS);
            } else if (hasWheel(v - JOINS)) {
                joinWheel(v - JOINS);
            }
        }

        private void takeLoad(int wanted) {
            int given = Math.min(wanted, shaftSwing);
            shaftSwing -= given;
            done += given;
            lack += wanted - given;
        }

        private void joinWheel(int w) {
            int both = shaftSwing + swings[w];
            swings[w] = joinedSwing(w);
            shaftSwing = both - swings[w];
        }

        int joinedSwing(int w) {
            int did = swings[w];
            int even = quotient((did + shaftSwing) * masses[w], masses[w] + shaftMass);
            switch (kinds[w]) {
                case PLAIN:
                    return even;
                case SLIP:
                    return did + (even - did) / 2;
                case TAKE:
                    return Math.max(even, did);
                default:
                    return Math.min(Math.max(even, did), did + SOFT_STEP);
            }
        }

        /** A tick whose act is v. */
        void passTick(int v) {
            perform(v);
            for (int w = 0; w < wheels; w++) {
                int taken = Math.min(losses[w], swings[w]);
                swings[w] -= taken;
                lost += taken;
            }
            tick++;
        }

        void runTicks(int n) {
            for (int t = 0; t < n; t++) {
                passTick(dueAct());
            }
        }
    }

    /** The tape, and the reading of it token by token. */
    private static final class Tape {
        private static final int END = 0, NAME = 1, NUMBER = 2, STOP = 3;
        private static final int NO_TOKEN = 1, MISPLACED = 2, OUT_OF_BOUNDS = 3, SHAFT_TWICE = 4, TOO_MANY = 5;
        // Lines 0 to 3 are those of the kinds.
        private static final int SHAFT_LINE = 4, DRIVE_LINE = 5, LOAD_LINE = 6, JOIN_LINE = 7, NO_LINE = 8;

        final int[] bytes = new int[MOST_BYTES];
        int length = 0;
        /** The fault of the latest reading, 0 if it had none. */
        int wrong = 0;
        private int at = 0;
        private int token = END;
        private int place = 0;
        private int number = 0;
        private boolean shaftTold = false;

        int append(int c) {
            if (length >= MOST_BYTES) {
                return FULL;
            }
            bytes[length] = c;
            length++;
            return length;
        }

        /** How many lines tell the rig; -10 less the place of the fault. */
        int tell(Rig rig) {
            rig.clear();
            wrong = 0;
            at = 0;
            shaftTold = false;
            int lines = 0;
            nextToken();
            // A line has a byte at least.
            while (wrong == 0 && token != END && lines < MOST_BYTES) {
                takeLine(rig);
                lines++;
                nextToken();
            }
            return wrong == 0 ? lines : -10 - place;
        }

        /** Once a fault is met, nothing more is read: place stays that of the fault. */
        private void nextToken() {
            if (wrong != 0) {
                return;
            }
            while (at < length && bytes[at] == ' ') {
                at++;
            }
            place = at;
            if (at >= length) {
                token = END;
            } else if (isLetter(bytes[at])) {
                takeName();
            } else if (isFigure(bytes[at])) {
                takeNumber();
            } else if (bytes[at] == ';') {
                token = STOP;
                at++;
            } else {
                wrong = NO_TOKEN;
            }
        }

        private void takeName() {
            token = NAME;
            while (at < length && isLetter(bytes[at])) {
                at++;
            }
        }

        private void takeNumber() {
            token = NUMBER;
            number = 0;
            while (at < length && isFigure(bytes[at])) {
                if (at - place >= 2) {
                    wrong = NO_TOKEN;
                    return;
                }
                number = number * 10 + bytes[at] - '0';
                at++;
            }
        }

        private static boolean isLetter(int c) {
            return c >= 'a' && c <= 'z';
        }

        private static boolean isFigure(int c) {
            return c >= '0' && c <= '9';
        }

        private void takeLine(Rig rig) {
            int line = lineOfName();
            if (line == NO_LINE) {
                wrong = MISPLACED;
            } else if (line < SHAFT_LINE) {
                takeWheelLine(rig, line);
            } else if (line == SHAFT_LINE) {
                takeShaftLine(rig);
            } else {
                takeActLine(rig, line);
            }
        }

        private void takeWheelLine(Rig rig, int kind) {
            if (rig.wheels >= MOST_WHEELS) {
                wrong = TOO_MANY;
                return;
            }
            int mass = numberWithin(1, MOST_MASS);
            int loss = numberWithin(0, MOST_LOSS);
            takeStop();
            if (wrong == 0) {
                rig.appendWheel(kind, mass, loss);
            }
        }

        private void takeShaftLine(Rig rig) {
            if (shaftTold) {
                wrong = SHAFT_TWICE;
                return;
            }
            int mass = numberWithin(1, MOST_MASS);
            takeStop();
            if (wrong == 0) {
                rig.shaftMass = mass;
                shaftTold = true;
            }
        }

        private void takeActLine(Rig rig, int line) {
            if (rig.acts >= MOST_ACTS) {
                wrong = TOO_MANY;
                return;
            }
            int amount = numberWithin(0, line == JOIN_LINE ? MOST_WHEELS - 1 : LOADS - 1);
            takeStop();
            if (wrong == 0) {
                rig.appendAct(firstActOf(line) + amount);
            }
        }

        private static int firstActOf(int line) {
            switch (line) {
                case LOAD_LINE:
                    return LOADS;
                case JOIN_LINE:
                    return JOINS;
                default:
                    return 0;
            }
        }

        private int numberWithin(int least, int most) {
            nextToken();
            if (wrong == 0 && token != NUMBER) {
                wrong = MISPLACED;
            }
            if (wrong == 0 && !within(number, least, most)) {
                wrong = OUT_OF_BOUNDS;
            }
            return number;
        }

        private void takeStop() {
            nextToken();
            if (wrong == 0 && token != STOP) {
                wrong = MISPLACED;
            }
        }

        private int lineOfName() {
            if (token == NAME) {
                for (int line = 0; line < NO_LINE; line++) {
                    if (tokenIs(nameOfLine(line))) {
                        return line;
                    }
                }
            }
            return NO_LINE;
        }

        private static String nameOfLine(int line) {
            switch (line) {
                case 0:
                    return "plain";
                case 1:
                    return "slip";
                case 2:
                    return "take";
                case 3:
                    return "soft";
                case SHAFT_LINE:
                    return "shaft";
                case DRIVE_LINE:
                    return "drive";
                case LOAD_LINE:
                    return "load";
                default:
                    return "join";
            }
        }

        private boolean tokenIs(String name) {
            if (at - place != name.length()) {
                return false;
            }
            for (int i = 0; i < name.length(); i++) {
                if (bytes[place + i] != name.charAt(i)) {
                    return false;
                }
            }
            return true;
        }
    }

    /** A row of cells of one lane, or nothing. */
    private static final class Sheet {
        boolean made = false;
        int lane = BYTES;
        int size = 0;
        final int[] cells = new int[MOST_CELLS];

        void renew(int newLane, int newSize) {
            made = true;
            lane = newLane;
            size = newSize;
            for (int i = 0; i < MOST_CELLS; i++) {
                cells[i] = 0;
            }
        }

        /** What the machine would find, were cell i taken as of a lane; 0 if nothing. */
        int faultAt(int asLane, int i) {
            if (!made) {
                return NULL_FAULT;
            }
            if (asLane != lane) {
                return CAST_FAULT;
            }
            return i >= 0 && i < size ? 0 : INDEX_FAULT;
        }

        void write(int i, int v) {
            if (lane == BYTES) {
                cells[i] = (byte) v;
            } else if (lane == SHORTS) {
                cells[i] = (short) v;
            } else {
                cells[i] = v;
            }
        }
    }
}
