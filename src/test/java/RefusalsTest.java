import java.util.ArrayList;
import java.util.Arrays;
import java.util.HashSet;
import java.util.List;
import java.util.Set;
import java.util.function.Function;
import java.util.function.Supplier;

/**
 * What is refused changes nothing, and what only asks changes nothing: of two objects that are alike one takes
 * the call, the other does not, and behind it both answer all the same.
 */
public final class RefusalsTest {
    private static final int LEAST = Check.LEAST, MOST = Check.MOST;

    private interface Call {
        long on(FlyWheels x, int[] v);
    }

    /** A call, whether it only asks, and the last number taken and the first refused of each of its arguments. */
    private record Kind(String name, boolean asks, Call call, int[]... ends) {
    }

    /** The least and the most that is taken. */
    private static int[] ends(int least, int most) {
        return new int[] {LEAST, least - 1, least, most, most + 1, MOST};
    }

    private static final int[] WHEEL = {LEAST, -1, 0, 1, 2, 3, 4, MOST};
    private static final int[] TWO = ends(0, 1);
    private static final int[] FAR = ends(0, 200);

    private static final List<Kind> CALLS = List.of(
        new Kind("feed", false, (x, v) -> x.feed(v[0]), ends(0, 127)),
        new Kind("end", false, (x, v) -> x.end(v[0]), new int[] {LEAST, -1, 0, 1, 10, 159, 160, 161, MOST}),
        new Kind("fault", true, (x, v) -> x.fault()),
        new Kind("rule", true, (x, v) -> x.rule(v[0]), ends(0, 8)),
        new Kind("wheel", true, (x, v) -> x.wheel(v[0], v[1]), WHEEL, ends(0, 5)),
        new Kind("act", true, (x, v) -> x.act(v[0]), ends(0, 15)),
        new Kind("alter", false, (x, v) -> x.alter(v[0], v[1], v[2]), WHEEL, new int[] {LEAST, -1, 0, 1, 2, 3, 4, MOST},
            new int[] {LEAST, -1, 0, 1, 3, 4, 9, 10, 20, 21, 9999, 10000, MOST}),
        new Kind("shaft", false, (x, v) -> x.shaft(v[0]), ends(1, 20)),
        new Kind("put", false, (x, v) -> x.put(v[0], v[1], v[2]), ends(0, 3), ends(1, 20), ends(0, 9)),
        new Kind("cut", false, (x, v) -> x.cut(v[0]), new int[] {LEAST, -1, 0, 1, 2, 3, 4, 5, MOST}),
        new Kind("set", false, (x, v) -> x.set(v[0], v[1]), new int[] {LEAST, -1, 0, 2, 3, 15, 16, MOST}, ends(0, 203)),
        new Kind("add", false, (x, v) -> x.add(v[0]), ends(0, 203)),
        new Kind("drop", false, (x, v) -> x.drop(v[0]), new int[] {LEAST, -1, 0, 3, 4, 16, 17, MOST}),
        new Kind("turn", false, (x, v) -> x.turn(v[0]), new int[] {LEAST, -1, 0, 99, 100, 199, 200, 201, 202, 203, 204, MOST}),
        new Kind("ticks", false, (x, v) -> x.ticks(v[0]), new int[] {LEAST, -1, 0, 1, 100, 101, MOST}),
        new Kind("runs", true, (x, v) -> x.runs(v[0], v[1]), FAR, ends(0, 4)),
        new Kind("ahead", true, (x, v) -> x.ahead(v[0], v[1]), WHEEL, FAR),
        new Kind("when", true, (x, v) -> x.when(v[0]), WHEEL),
        new Kind("again", true, (x, v) -> x.again()),
        new Kind("mass", true, (x, v) -> x.mass(v[0], v[1], v[2]), WHEEL, FAR, TWO),
        new Kind("kind", true, (x, v) -> x.kind(v[0], v[1], v[2]), WHEEL, FAR, TWO),
        new Kind("bears", true, (x, v) -> x.bears(v[0], v[1]), WHEEL, FAR),
        new Kind("swap", true, (x, v) -> x.swap(v[0], v[1]), FAR, TWO),
        new Kind("omit", true, (x, v) -> x.omit(v[0], v[1]), FAR, TWO),
        new Kind("off", true, (x, v) -> x.off(v[0], v[1]), FAR, TWO),
        new Kind("luck", true, (x, v) -> x.luck(v[0], v[1], v[2]), ends(0, 10), ends(0, 8), TWO),
        new Kind("mean", true, (x, v) -> x.mean(v[0], v[1], v[2]), ends(0, 10), ends(0, 8), TWO),
        new Kind("see", false, (x, v) -> x.see(v[0], v[1], v[2]), ends(0, 40), WHEEL, ends(0, 9999999)),
        new Kind("forget", false, (x, v) -> x.forget(v[0]), new int[] {LEAST, -1, 0, 2, 3, 6, 7, MOST}),
        new Kind("kinds", true, (x, v) -> x.kinds(v[0]), WHEEL),
        new Kind("losses", true, (x, v) -> x.losses(v[0]), WHEEL),
        new Kind("ask", true, (x, v) -> x.ask(v[0], v[1]), WHEEL, TWO),
        new Kind("drift", true, (x, v) -> x.drift(v[0], v[1], v[2]), ends(0, 1), ends(1, 200), TWO),
        new Kind("keep", false, (x, v) -> x.keep(v[0]), TWO),
        new Kind("back", false, (x, v) -> x.back(v[0]), TWO),
        new Kind("sheet", false, (x, v) -> x.sheet(v[0], v[1], v[2]), ends(0, 3), ends(0, 2), ends(0, 40)),
        new Kind("lay", false, (x, v) -> x.lay(v[0], v[1], v[2]), ends(0, 3),
            new int[] {LEAST, -1, 0, 2, 3, 39, 40, MOST}, new int[] {0, 77}),
        new Kind("read", false, (x, v) -> x.read(v[0], v[1], v[2], v[3]), ends(0, 3), ends(0, 2),
            new int[] {LEAST, -1, 0, 1, 2, 3, 39, 40, MOST}, new int[] {LEAST, -1, 0, 1, 17, 40, 41, MOST}),
        new Kind("torn", true, (x, v) -> x.torn()),
        new Kind("count", true, (x, v) -> x.count(v[0]), ends(0, 5)));

    // ---- objects that are alike each time they are made

    private static FlyWheels some() {
        FlyWheels x = new FlyWheels();
        Check.tell(x, "shaft 1;shaft 2;");
        x.shaft(7);
        x.put(1, 6, 2);
        x.put(3, 4, 1);
        x.add(60);
        x.add(201);
        x.add(190);
        x.ticks(4);
        x.keep(1);
        x.alter(0, 3, 33);
        x.ticks(1);
        x.see(1, 0, 31);
        x.see(3, 1, 12);
        Check.feedAll(x, "load 5;!");
        x.sheet(0, 0, 3);
        x.lay(0, 1, 101);
        x.lay(0, 2, -1);
        x.sheet(2, 2, 1);
        x.lay(2, 0, 203);
        x.read(0, 0, 3, 1);
        return x;
    }

    private static FlyWheels full() {
        FlyWheels x = new FlyWheels();
        for (int w = 0; w < 4; w++) {
            x.put(w, 20 - w, w);
        }
        for (int i = 0; i < 16; i++) {
            x.add(40 * (i % 6));
        }
        x.keep(0);
        for (int i = 0; i < 99; i++) {
            x.ticks(100);
        }
        x.ticks(99);
        x.keep(1);
        for (int i = 0; i < 6; i++) {
            x.see(0, 3, x.wheel(3, 3));
        }
        for (int k = 0; k < 4; k++) {
            x.sheet(k, k % 3, 40);
            x.lay(k, 0, 11 + k);
            x.lay(k, 39, 21 + k);
        }
        for (int i = 0; i < 160; i++) {
            x.feed("join 2;   ".charAt(i % 10));
        }
        return x;
    }

    // ---- all that can be asked, in parts that each stay within the calls that an object is good for

    private static final class Answers {
        private long[] all = new long[512];
        private int count = 0;

        void more(long answer) {
            all[count] = answer;
            count++;
        }

        long[] row() {
            return Arrays.copyOf(all, count);
        }
    }

    private static void askState(FlyWheels x, Answers a) {
        for (int what = 0; what <= 8; what++) {
            a.more(x.rule(what));
        }
        for (int i = 0; i < 16; i++) {
            a.more(x.act(i));
            a.more(x.wheel(i / 4, i % 4));
        }
    }

    private static long[] stateAndSeen(FlyWheels x) {
        Answers a = new Answers();
        askState(x, a);
        for (int what = 0; what <= 5; what++) {
            a.more(x.count(what));
        }
        a.more(x.torn());
        for (int n = x.count(0); n > 0; n--) {
            a.more(x.losses(0));
            a.more(x.kinds(1));
            a.more(x.forget(n - 1));
        }
        return a.row();
    }

    private static long[] images(FlyWheels x) {
        Answers a = new Answers();
        for (int k = 0; k < 2; k++) {
            a.more(x.back(k));
            askState(x, a);
        }
        return a.row();
    }

    private static long[] sheets(FlyWheels x) {
        Answers a = new Answers();
        for (int k = 0; k < 4; k++) {
            for (int lane = 0; lane < 3; lane++) {
                a.more(x.read(k, lane, 0, 0));
                for (int i : new int[] {0, 1, 2, 3, 39}) {
                    x.drop(0);
                    a.more(x.read(k, lane, i, 1));
                    a.more(10 * x.act(0) + x.torn());
                }
            }
        }
        return a.row();
    }

    private static long[] tape(FlyWheels x) {
        Answers a = new Answers();
        a.more(x.text());
        askState(x, a);
        return a.row();
    }

    private static final List<Function<FlyWheels, long[]>> PARTS =
        List.of(RefusalsTest::stateAndSeen, RefusalsTest::images, RefusalsTest::sheets, RefusalsTest::tape);

    // ---- the twins

    private static final Set<String> refused = new HashSet<>();
    private static final Set<String> unlike = new HashSet<>();

    private static void twins(String state, Supplier<FlyWheels> made) {
        List<long[]> due = new ArrayList<>();
        for (Function<FlyWheels, long[]> part : PARTS) {
            due.add(part.apply(made.get()));
        }
        int fault = made.get().fault();
        for (Kind kind : CALLS) {
            for (int[] v : arguments(kind)) {
                // What neither asks nor is refused may change what it likes.
                if (kind.asks || kind.call.on(made.get(), v) < 0) {
                    compare(state, kind, v, made, due, fault);
                }
            }
        }
    }

    private static void compare(String state, Kind kind, int[] v, Supplier<FlyWheels> made, List<long[]> due, int fault) {
        String call = state + ": " + kind.name + Arrays.toString(v);
        for (int part = 0; part < PARTS.size(); part++) {
            FlyWheels x = made.get();
            long answer = kind.call.on(x, v);
            if (answer < 0) {
                refused.add(kind.name);
            }
            Check.due("fault() behind " + call, x.fault(), fault);
            boolean same = Arrays.equals(PARTS.get(part).apply(x), due.get(part));
            if (!same && unlike.add(kind.name)) {
                Check.fail(call + " answered " + answer + " and changed something (part " + part + ")");
            }
        }
    }

    /** All that can be made of the ends of a call's arguments. */
    private static List<int[]> arguments(Kind kind) {
        List<int[]> all = new ArrayList<>();
        all.add(new int[0]);
        for (int[] ends : kind.ends) {
            List<int[]> longer = new ArrayList<>();
            for (int[] ahead : all) {
                for (int v : ends) {
                    int[] more = Arrays.copyOf(ahead, ahead.length + 1);
                    more[ahead.length] = v;
                    longer.add(more);
                }
            }
            all = longer;
        }
        return all;
    }

    private static void nothingIsLeftOut() {
        for (Kind kind : CALLS) {
            boolean never = kind.name.equals("fault") || kind.name.equals("torn");
            if (!never && !refused.contains(kind.name)) {
                Check.fail("no call of " + kind.name + " was refused");
            }
        }
        Set<String> names = new HashSet<>();
        for (java.lang.reflect.Method m : FlyWheels.class.getDeclaredMethods()) {
            if (java.lang.reflect.Modifier.isPublic(m.getModifiers())) {
                names.add(m.getName());
            }
        }
        for (Kind kind : CALLS) {
            names.remove(kind.name);
        }
        Check.due("calls that are left out, but text()", names.size(), 1);
    }

    /** A text with a FAULT changes THE TAPE and fault() alone. */
    private static void refusedTexts(Supplier<FlyWheels> made) {
        String[] texts = {"!", "x", "shaft 0;", "shaft 9;plain 9 9;load 9;shaft 8;", "plain 9 9;".repeat(5),
            "drive 1;".repeat(17), "shaft 9;soft 9 9;drive 9", "123"};
        for (String text : texts) {
            for (Function<FlyWheels, long[]> part : PARTS) {
                FlyWheels x = made.get();
                x.end(0);
                Check.due("'" + text + "' is refused", Check.tell(x, text) < 0 ? 1 : 0, 1);
                FlyWheels twin = made.get();
                twin.end(0);
                if (!Arrays.equals(part.apply(x), part.apply(twin))) {
                    Check.fail("the text '" + text + "' was refused and changed something");
                }
            }
        }
    }

    public static void main(String[] args) {
        Check.sentence(Check.TERMS, "what is refused changes nothing (but THE TAPE, as told)");
        twins("a new object", FlyWheels::new);
        twins("some", RefusalsTest::some);
        twins("full", RefusalsTest::full);
        nothingIsLeftOut();
        refusedTexts(FlyWheels::new);
        refusedTexts(RefusalsTest::some);
        refusedTexts(RefusalsTest::full);
        Check.end("refusals");
    }
}
