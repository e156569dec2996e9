/** Each sentence of the 42 promises that names a bound, an empty or a full case, a tie or a refusal. */
public final class BoundsTest {
    private static final int BAD = Check.BAD, STATE = Check.STATE, FULL = Check.FULL, NONE = Check.NONE;
    private static final int LEAST = Check.LEAST, MOST = Check.MOST;
    private static final String FOUR_WHEELS = "plain 5 0;slip 6 1;take 7 2;soft 8 3;";
    /** Sixteen acts that do nothing. */
    private static final String IDLE_ACTS = "load 0;".repeat(16);

    private static void sentence(int promise, String words) {
        Check.sentence(promise, words);
    }

    private static void due(String call, long got, long want) {
        Check.due(call, got, want);
    }

    private static FlyWheels told(String text) {
        return Check.told(text);
    }

    /** A new object whose shaft swings so much, with what the text tells. */
    private static FlyWheels swinging(int shaft, String text) {
        FlyWheels x = told(text);
        for (int left = shaft; left > 0; left -= Math.min(left, 99)) {
            x.turn(Math.min(left, 99));
        }
        return x;
    }

    private static FlyWheels atTick(int tick, String text) {
        FlyWheels x = told(text);
        for (int left = tick; left > 0; left -= Math.min(left, 100)) {
            x.ticks(Math.min(left, 100));
        }
        return x;
    }

    private static int allSwing(FlyWheels x) {
        int sum = x.rule(6);
        for (int w = 0; w < x.rule(0); w++) {
            sum += x.wheel(w, 3);
        }
        return sum;
    }

    // ---- the text, what there is

    private static void newObject() {
        sentence(1, "No WHEELS, no ACTS; SHEETS have nothing.");
        FlyWheels x = new FlyWheels();
        due("WHEELS", x.rule(0), 0);
        due("WHEEL 0", x.wheel(0, 0), BAD);
        due("ACTS", x.rule(1), 0);
        due("ACT 0", x.act(0), BAD);
        due("CELLS of SHEET 0", x.count(3), NONE);
        for (int k = 0; k < 4; k++) {
            due("a CELL of SHEET " + k, x.lay(k, 0, 0), -11);
            for (int lane = 0; lane < 3; lane++) {
                due("read of SHEET " + k, x.read(k, lane, 0, 1), 0);
                due("torn of SHEET " + k, x.torn(), 1);
            }
        }
        FlyWheels y = new FlyWheels();
        due("fault()", y.fault(), 0);
        due("torn()", y.torn(), 0);
        for (int what = 0; what < 3; what++) {
            due("count(" + what + ")", y.count(what), 0);
        }
    }

    private static void feed() {
        sentence(2, "A byte (0 to 127) comes behind THE TAPE: how many it has.");
        Check.taken("feed", c -> new FlyWheels().feed(c), 0, 1, 127, 1);
        FlyWheels x = new FlyWheels();
        Check.feedAll(x, "load 12");
        due("behind THE TAPE", x.feed(';'), 8);
        due("behind THE TAPE", x.text(), 1);
        due("behind THE TAPE", x.act(0), 112);
        sentence(2, "BAD; FULL: more than 160.");
        FlyWheels y = new FlyWheels();
        for (int i = 1; i <= 160; i++) {
            due("byte " + i, y.feed(i % 128), i);
        }
        for (int c : new int[] {0, 127, 32}) {
            due("a byte more", y.feed(c), FULL);
        }
        due("128, when it is FULL", y.feed(128), BAD);
        due("-1, when it is FULL", y.feed(-1), BAD);
        due("THE TAPE", y.count(2), 160);
        y.end(159);
        due("byte 160 again", y.feed(1), 160);
        due("byte 161 again", y.feed(1), FULL);
    }

    private static void end() {
        sentence(3, "THE TAPE keeps its first n bytes: how many it had. BAD.");
        due("end(0) of nothing", new FlyWheels().end(0), 0);
        for (int n : new int[] {-1, 1, LEAST, MOST, 160}) {
            due("end(" + n + ") of nothing", new FlyWheels().end(n), BAD);
        }
        FlyWheels x = new FlyWheels();
        Check.feedAll(x, "load 1;load 2;" + " ".repeat(146));
        for (int n : new int[] {161, -1, LEAST, MOST}) {
            due("end(" + n + ") of 160", x.end(n), BAD);
        }
        due("THE TAPE", x.count(2), 160);
        due("end(160)", x.end(160), 160);
        due("end(159)", x.end(159), 160);
        due("end(160) of 159", x.end(160), BAD);
        due("end(7)", x.end(7), 159);
        due("THE TAPE", x.count(2), 7);
        due("the first bytes", x.text(), 1);
        due("the first bytes", x.act(0), 101);
        Check.feedAll(x, "abc");
        due("end(0)", x.end(0), 3);
        due("THE TAPE", x.count(2), 0);
        due("end(1)", x.end(1), BAD);
        due("none of it is read", x.text(), 0);
    }

    private static void text() {
        sentence(4, "THE TAPE (empty then) tells all: how many lines; "
            + "-10 less the place of its FAULT: that which was told stays.");
        FlyWheels x = told("shaft 7;plain 3 4;load 9;");
        due("THE TAPE", x.count(2), 0);
        due("a FAULT at place 0", Check.tell(x, "!load 1;"), -10);
        due("THE TAPE", x.count(2), 0);
        due("a FAULT at place 8", Check.tell(x, "shaft 8;!"), -18);
        due("MASS stays", x.rule(5), 7);
        due("WHEELS stay", x.rule(0), 1);
        due("ACTS stay", x.rule(1), 1);
        due("as many lines as may be: 21", Check.tell(x, FOUR_WHEELS + IDLE_ACTS + "shaft 1;"), 21);
        due("a FAULT at place 159", Check.tell(x, " ".repeat(159) + "!"), -169);
        due("a FAULT at the length 160", Check.tell(x, " ".repeat(156) + "load"), -170);
        due("WHEELS stay", x.rule(0), 4);
        due("no lines", x.text(), 0);
        due("WHEELS", x.rule(0), 0);
        due("ACTS", x.rule(1), 0);
        due("MASS", x.rule(5), 5);
    }

    private static void fault() {
        sentence(5, "The FAULT of the latest text(); 0.");
        FlyWheels x = new FlyWheels();
        due("no text()", x.fault(), 0);
        String[] texts = {"!", "x", "join 4;", "shaft 1;shaft 1;", FOUR_WHEELS + "soft 1 1;"};
        for (int i = 0; i < texts.length; i++) {
            Check.tell(x, texts[i]);
            due("fault of '" + texts[i] + "'", x.fault(), i + 1);
            x.feed('!');
            x.end(0);
            due("fault till the next text()", x.fault(), i + 1);
        }
        x.text();
        due("fault of one that is taken", x.fault(), 0);
    }

    private static void rule() {
        sentence(6, "0 WHEELS, 1 ACTS, 2 TICK, 3 DONE, 4 LACK, 5 MASS of THE SHAFT, 6 what it SWINGS, 7 its SPEED, "
            + "8 the ACT of this TICK (what it is; NONE). BAD.");
        FlyWheels x = swinging(120, "plain 5 0;shaft 7;load 50;load 90;join 0;");
        x.ticks(2);
        x.turn(23);
        int[] want = {1, 3, 2, 120, 20, 7, 23, 3, 200};
        for (int what = 0; what <= 8; what++) {
            due("rule(" + what + ")", x.rule(what), want[what]);
        }
        Check.taken("rule", x::rule, 0, 1, 8, 200);
        x.drop(0);
        due("rule(8) without ACTS", x.rule(8), NONE);
        x.add(0);
        due("rule(8) of a drive by 0", x.rule(8), 0);
    }

    private static void wheel() {
        sentence(7, "Of a WHEEL: 0 KIND, 1 MASS, 2 LOSS, 3 what it SWINGS, 4 its SPEED, "
            + "5 what it would SWING, were it JOINED now. BAD.");
        FlyWheels x = swinging(40, FOUR_WHEELS);
        for (int w = 0; w < 4; w++) {
            x.alter(w, 3, 20 + w);
        }
        // (20 + 40) * 5 / 10 and (23 + 40) * 8 / 13
        int[][] want = {{0, 5, 0, 20, 4, 30}, {3, 8, 3, 23, 2, 38}};
        for (int what = 0; what <= 5; what++) {
            due("wheel(0, " + what + ")", x.wheel(0, what), want[0][what]);
            due("wheel(3, " + what + ")", x.wheel(3, what), want[1][what]);
        }
        Check.taken("WHEEL", w -> x.wheel(w, 3), 0, 20, 3, 23);
        Check.taken("what", what -> x.wheel(0, what), 0, 0, 5, 30);
        x.cut(1);
        due("a WHEEL that is there no more", x.wheel(1, 0), BAD);
        due("the last WHEEL", x.wheel(0, 0), 0);
        x.cut(0);
        due("no WHEELS", x.wheel(0, 0), BAD);
    }

    private static void act() {
        sentence(8, "An ACT. BAD.");
        FlyWheels x = new FlyWheels();
        due("no ACTS", x.act(0), BAD);
        for (int i = 0; i < 16; i++) {
            x.add(100 + i);
        }
        Check.taken("act", x::act, 0, 100, 15, 115);
        x.drop(3);
        Check.taken("act", x::act, 0, 100, 2, 102);
    }

    // ---- what is changed

    private static void alter() {
        sentence(9, "KIND, MASS, LOSS, what it SWINGS (what 0 to 3; the last 0 to 9999) of a WHEEL becomes v: "
            + "what it was. BAD.");
        Check.taken("KIND", v -> told("take 7 3;").alter(0, 0, v), 0, 2, 3, 2);
        Check.taken("MASS", v -> told("take 7 3;").alter(0, 1, v), 1, 7, 20, 7);
        Check.taken("LOSS", v -> told("take 7 3;").alter(0, 2, v), 0, 3, 9, 3);
        Check.taken("what it SWINGS", v -> told("take 7 3;").alter(0, 3, v), 0, 0, 9999, 0);
        Check.taken("what", what -> told("take 7 3;").alter(0, what, 1), 0, 2, 3, 0);
        Check.taken("WHEEL", w -> told(FOUR_WHEELS).alter(w, 0, 0), 0, 0, 3, 3);
        due("no WHEELS", new FlyWheels().alter(0, 0, 0), BAD);
        int[][] ends = {{0, 3}, {1, 20}, {0, 9}, {0, 9999}};
        for (int what = 0; what <= 3; what++) {
            FlyWheels x = told(FOUR_WHEELS);
            x.alter(1, what, ends[what][1]);
            due("becomes", x.wheel(1, what), ends[what][1]);
            due("what it was", x.alter(1, what, ends[what][0]), ends[what][1]);
            due("becomes", x.wheel(1, what), ends[what][0]);
            due("too small", x.alter(1, what, ends[what][0] - 1), BAD);
            due("too large", x.alter(1, what, ends[what][1] + 1), BAD);
            due("is as it was", x.wheel(1, what), ends[what][0]);
            due("the other WHEEL", x.wheel(2, what), new int[] {2, 7, 2, 0}[what]);
        }
    }

    private static void shaft() {
        sentence(10, "MASS of THE SHAFT becomes v: what it was. BAD.");
        Check.taken("shaft", v -> told("shaft 9;").shaft(v), 1, 9, 20, 9);
        FlyWheels x = new FlyWheels();
        due("shaft(1)", x.shaft(1), 5);
        due("shaft(0)", x.shaft(0), BAD);
        due("MASS", x.rule(5), 1);
        due("shaft(20)", x.shaft(20), 1);
        due("shaft(21)", x.shaft(21), BAD);
        due("MASS", x.rule(5), 20);
    }

    private static void put() {
        sentence(11, "A WHEEL more, behind all others: how many there are. BAD; FULL.");
        Check.taken("KIND", v -> told("take 7 3;").put(v, 1, 0), 0, 2, 3, 2);
        Check.taken("MASS", v -> told("take 7 3;").put(0, v, 0), 1, 2, 20, 2);
        Check.taken("LOSS", v -> told("take 7 3;").put(0, 1, v), 0, 2, 9, 2);
        FlyWheels x = new FlyWheels();
        for (int w = 0; w < 4; w++) {
            due("put", x.put(w, 20 - w, 9 - w), w + 1);
            for (int what = 0; what < 4; what++) {
                due("behind all others", x.wheel(w, what), new int[] {w, 20 - w, 9 - w, 0}[what]);
            }
        }
        due("a 5th", x.put(1, 1, 1), FULL);
        due("a 5th, not as told", x.put(1, 21, 1), BAD);
        due("WHEELS", x.rule(0), 4);
        due("the last is as it was", x.wheel(3, 1), 17);
        x.alter(3, 3, 77);
        x.cut(3);
        due("a 4th again", x.put(1, 1, 1), 4);
        due("SWINGS 0 at first", x.wheel(3, 3), 0);
    }

    private static void cut() {
        sentence(12, "WHEELS are the first n alone: how many there were. BAD.");
        Check.taken("cut of 4", n -> told(FOUR_WHEELS).cut(n), 0, 4, 4, 4);
        Check.taken("cut of 1", n -> told("plain 1 1;").cut(n), 0, 1, 1, 1);
        Check.taken("cut of 0", n -> new FlyWheels().cut(n), 0, 0, 0, 0);
        FlyWheels x = told(FOUR_WHEELS);
        due("cut(3)", x.cut(3), 4);
        due("the first are left", x.wheel(2, 0), 2);
        due("the last is gone", x.wheel(3, 0), BAD);
        due("cut(4) of 3", x.cut(4), BAD);
        due("WHEELS", x.rule(0), 3);
        due("cut(0)", x.cut(0), 3);
        due("WHEELS", x.rule(0), 0);
    }

    private static void set() {
        sentence(13, "An ACT becomes v: what it was. BAD (also 204 and more).");
        Check.taken("v", v -> told("load 9;").set(0, v), 0, 109, 203, 109);
        due("205", told("load 9;").set(0, 205), BAD);
        Check.taken("ACT", i -> told(IDLE_ACTS).set(i, 1), 0, 100, 15, 100);
        Check.taken("ACT", i -> told("load 9;load 8;").set(i, 1), 0, 109, 1, 108);
        due("no ACTS", new FlyWheels().set(0, 0), BAD);
        FlyWheels x = told("load 9;load 8;load 7;");
        due("set(1, 203)", x.set(1, 203), 108);
        due("set(1, 204)", x.set(1, 204), BAD);
        due("set(1, -1)", x.set(1, -1), BAD);
        due("set(3, 0)", x.set(3, 0), BAD);
        int[] want = {109, 203, 107};
        for (int i = 0; i < 3; i++) {
            due("act(" + i + ")", x.act(i), want[i]);
        }
        due("ACTS", x.rule(1), 3);
    }

    private static void add() {
        sentence(14, "An ACT more, behind all others: how many there are. BAD; FULL.");
        Check.taken("add", v -> told("load 9;").add(v), 0, 2, 203, 2);
        FlyWheels x = new FlyWheels();
        for (int i = 0; i < 16; i++) {
            due("add", x.add(203 - i), i + 1);
            due("behind all others", x.act(i), 203 - i);
        }
        due("a 17th", x.add(0), FULL);
        due("a 17th, not as told", x.add(204), BAD);
        due("a 17th, not as told", x.add(-1), BAD);
        due("ACTS", x.rule(1), 16);
        due("the last is as it was", x.act(15), 188);
        x.drop(15);
        due("a 16th again", x.add(0), 16);
    }

    private static void drop() {
        sentence(15, "ACTS are the first n alone: how many there were. BAD.");
        Check.taken("drop of 16", n -> told(IDLE_ACTS).drop(n), 0, 16, 16, 16);
        Check.taken("drop of 1", n -> told("load 9;").drop(n), 0, 1, 1, 1);
        Check.taken("drop of 0", n -> new FlyWheels().drop(n), 0, 0, 0, 0);
        FlyWheels x = told("load 9;load 8;load 7;");
        due("drop(2)", x.drop(2), 3);
        due("the first are left", x.act(1), 108);
        due("the last is gone", x.act(2), BAD);
        due("drop(3) of 2", x.drop(3), BAD);
        due("ACTS", x.rule(1), 2);
        due("drop(0)", x.drop(0), 2);
        due("the ACT of this TICK", x.rule(8), NONE);
    }

    private static void turn() {
        sentence(16, "An ACT v is done by hand: what THE SHAFT SWINGS then. BAD; "
            + "STATE: it would join a WHEEL that there is not.");
        Check.taken("turn", v -> swinging(50, "plain 5 0;plain 5 0;plain 5 0;plain 5 0;").turn(v), 0, 50, 203, 25);
        FlyWheels x = swinging(50, "plain 5 9;plain 5 9;drive 7;");
        due("turn(99)", x.turn(99), 149);
        due("turn(100)", x.turn(100), 149);
        due("turn(199)", x.turn(199), 50);
        due("turn(200)", x.turn(200), 25);
        due("no LOSS", x.wheel(0, 3), 25);
        due("turn(201)", x.turn(201), 13);
        due("turn(202): WHEEL 2 of 2", x.turn(202), STATE);
        due("turn(203)", x.turn(203), STATE);
        due("turn(204)", x.turn(204), BAD);
        due("THE SHAFT", x.rule(6), 13);
        due("no TICK", x.rule(2), 0);
        x.cut(0);
        due("turn(200) without WHEELS", x.turn(200), STATE);
        due("turn(199) without WHEELS", x.turn(199), 0);
    }

    // ---- ticks

    private static void ticks() {
        sentence(17, "n TICKS (0 to 100): what is DONE in them.");
        Check.taken("ticks", n -> swinging(120, "load 1;").ticks(n), 0, 0, 100, 100);
        FlyWheels x = swinging(101, "load 1;");
        x.ticks(100);
        due("TICK", x.rule(2), 100);
        due("DONE in them alone", x.ticks(5), 1);
        due("ticks(0)", x.ticks(0), 0);
        due("TICK", x.rule(2), 105);
        due("DONE in all", x.rule(3), 101);
        sentence(17, "BAD; FULL: TICK would be 10000 or more.");
        due("to 9999", atTick(9900, "").ticks(99), 0);
        due("to 10000", atTick(9900, "").ticks(100), FULL);
        due("to 10001", atTick(9901, "").ticks(100), FULL);
        FlyWheels last = atTick(9999, "drive 1;");
        due("TICK", last.rule(2), 9999);
        due("0 more", last.ticks(0), 0);
        due("1 more", last.ticks(1), FULL);
        due("101 more", last.ticks(101), BAD);
        due("-1 more", last.ticks(-1), BAD);
        due("TICK", last.rule(2), 9999);
        due("THE SHAFT", last.rule(6), 9999);
    }

    private static void runs() {
        sentence(18, "BY TICKS, n of them (0 to 200): what is DONE in them (what 0), what LACKS (1), "
            + "how much LOSSES take (2), what all SWING then, THE SHAFT too (3), "
            + "the greatest SPEED of THE SHAFT behind any of them, now too (4). BAD.");
        Check.taken("DONE", n -> swinging(300, "load 1;").runs(n, 0), 0, 0, 200, 200);
        Check.taken("what LACKS", n -> told("load 1;").runs(n, 1), 0, 0, 200, 200);
        Check.taken("SPEED", n -> told("shaft 1;drive 1;").runs(n, 4), 0, 0, 200, 200);
        FlyWheels x = told("plain 1 1;drive 2;");
        x.alter(0, 3, 300);
        Check.taken("LOSSES", n -> x.runs(n, 2), 0, 0, 200, 200);
        Check.taken("all SWING", n -> x.runs(n, 3), 0, 300, 200, 100 + 400);
        Check.taken("what", what -> x.runs(3, what), 0, 0, 4, 1);
        x.alter(0, 3, 199);
        due("LOSSES take no more than there is", x.runs(200, 2), 199);
        FlyWheels now = swinging(50, "load 1;");
        due("SPEED now is the greatest", now.runs(9, 4), 10);
        FlyWheels between = told("drive 50;load 50;");
        due("SPEED behind the first is the greatest", between.runs(2, 4), 10);
        FlyWheels sums = swinging(5, "load 3;");
        sums.ticks(3);
        due("DONE before does not count", sums.runs(9, 0), 0);
        due("LACK before does not count", sums.runs(2, 1), 6);
        x.ticks(10);
        due("LOSSES before do not count", x.runs(5, 2), 5);
    }

    private static void ahead() {
        sentence(19, "BY TICKS: what a WHEEL SWINGS behind n of them (0 to 200). BAD.");
        FlyWheels x = told("plain 5 1;slip 5 0;take 5 0;soft 5 9;");
        x.alter(0, 3, 201);
        x.alter(3, 3, 10);
        Check.taken("n", n -> x.ahead(0, n), 0, 201, 200, 1);
        Check.taken("WHEEL", w -> x.ahead(w, 1), 0, 200, 3, 1);
        due("0 at least", x.ahead(3, 2), 0);
        due("no WHEELS", new FlyWheels().ahead(0, 0), BAD);
    }

    private static void when() {
        sentence(20, "BY TICKS: behind how many (0 to 200) a WHEEL SWINGS 0 first. BAD; NONE: behind none.");
        int[][] rows = {{0, 0}, {1, 1}, {199, 199}, {200, 200}, {201, NONE}, {9999, NONE}};
        for (int[] row : rows) {
            FlyWheels x = told("plain 5 1;");
            x.alter(0, 3, row[0]);
            due("when of " + row[0], x.when(0), row[1]);
        }
        Check.taken("WHEEL", w -> told(FOUR_WHEELS).when(w), 0, 0, 3, 0);
        due("no WHEELS", new FlyWheels().when(0), BAD);
        FlyWheels first = swinging(90, "plain 5 9;load 0;load 0;join 0;");
        first.alter(0, 3, 18);
        due("first, though it swings again", first.when(0), 2);
    }

    private static void again() {
        sentence(21, "BY TICKS: behind how many (1 to 200) THE SHAFT, all WHEELS SWING as now, "
            + "and it is the turn of the same ACT. NONE: behind none.");
        due("behind 1 at least", told("load 0;").again(), 1);
        due("without ACTS", new FlyWheels().again(), 1);
        due("16 ACTS", told(IDLE_ACTS).again(), 16);
        due("ACTS that are alike are not the same", told("load 0;load 0;").again(), 2);
        due("THE SHAFT never", told("drive 1;").again(), NONE);
        due("THE SHAFT", swinging(9, "drive 7;load 7;").again(), 2);
        FlyWheels late = atTick(9999, "drive 7;load 7;drive 0;");
        due("beyond the last TICK", late.again(), 3);
        for (int w = 0; w < 4; w++) {
            FlyWheels x = told("plain 1 0;plain 1 0;plain 1 0;plain 1 0;load 0;");
            x.alter(w, 3, 5);
            due("WHEELS stay", x.again(), 1);
            x.alter(w, 2, 1);
            due("WHEEL " + w + " never", x.again(), NONE);
        }
        // 8 ACTS, by which all is as now behind every second round alone
        FlyWheels two = swinging(39, "shaft 10;slip 20 2;plain 16 3;plain 9 0;"
            + "join 0;drive 3;join 1;join 2;join 0;drive 37;join 1;join 2;");
        two.alter(0, 3, 24);
        two.alter(1, 3, 58);
        two.alter(2, 3, 34);
        due("two rounds", two.again(), 16);
        two.ticks(8);
        due("the first round is not as now", two.rule(6) * 1000 + two.wheel(0, 3) == 39024 ? 1 : 0, 0);
        two.ticks(8);
        due("THE SHAFT behind two", two.rule(6), 39);
        due("a WHEEL behind two", two.wheel(0, 3), 24);
        due("a WHEEL behind two", two.wheel(1, 3), 58);
        due("a WHEEL behind two", two.wheel(2, 3), 34);
    }

    // ---- what is best

    private static void mass() {
        sentence(22, "The MASS of a WHEEL by which most is DONE in n TICKS (0 to 200), of several the least (what 0), "
            + "how much (1). BAD.");
        Check.taken("n", n -> swinging(300, "plain 5 0;load 1;").mass(0, n, 1), 0, 0, 200, 200);
        Check.taken("what", what -> swinging(300, "plain 5 0;load 1;").mass(0, 9, what), 0, 1, 1, 9);
        Check.taken("WHEEL", w -> swinging(300, FOUR_WHEELS + "load 1;").mass(w, 9, 1), 0, 9, 3, 9);
        due("no WHEELS", new FlyWheels().mass(0, 0, 0), BAD);
        due("of several the least: n 0", told("plain 5 0;").mass(0, 0, 0), 1);
        due("of several the least: all alike", told("plain 20 0;load 1;").mass(0, 9, 0), 1);
        bestMass(told("plain 12 0;drive 60;join 0;load 60;"), 30, 1);
        FlyWheels great = swinging(60, "shaft 18;slip 5 1;plain 14 9;join 0;load 34;join 1;join 1;join 1;join 1;join 1;join 0;");
        great.alter(1, 3, 466);
        bestMass(great, 196, 20);
    }

    private static void bestMass(FlyWheels x, int n, int best) {
        int was = x.wheel(0, 1);
        int most = 0;
        int least = 0;
        for (int m = 20; m >= 1; m--) {
            x.alter(0, 1, m);
            int done = x.runs(n, 0);
            if (done >= most) {
                most = done;
                least = m;
            }
        }
        x.alter(0, 1, was);
        due("the best by alter() and runs()", least, best);
        due("the best MASS", x.mass(0, n, 0), best);
        due("how much", x.mass(0, n, 1), most);
        due("MASS is as it was", x.wheel(0, 1), was);
    }

    private static void kind() {
        sentence(23, "The KIND of a WHEEL by which most is DONE in n TICKS (0 to 200), of several the first (what 0), "
            + "how much (1). BAD.");
        Check.taken("n", n -> swinging(300, "soft 5 0;load 1;").kind(0, n, 1), 0, 0, 200, 200);
        Check.taken("what", what -> swinging(300, "soft 5 0;load 1;").kind(0, 9, what), 0, 0, 1, 9);
        Check.taken("WHEEL", w -> swinging(300, FOUR_WHEELS + "load 1;").kind(w, 9, 1), 0, 9, 3, 9);
        due("no WHEELS", new FlyWheels().kind(0, 0, 0), BAD);
        due("of several the first: n 0", told("soft 5 0;").kind(0, 0, 0), 0);
        // plain takes 79, slip 39, take 79, soft 20
        FlyWheels last = told("plain 20 0;drive 99;join 0;load 99;");
        due("KIND 3", last.kind(0, 3, 0), 3);
        due("how much", last.kind(0, 3, 1), 79);
        due("KIND is as it was", last.wheel(0, 0), 0);
        // plain and take 20, slip 10, soft 20
        FlyWheels slip = told("plain 5 0;drive 40;join 0;load 99;");
        due("KIND 1", slip.kind(0, 3, 0), 1);
        due("how much", slip.kind(0, 3, 1), 30);
        // plain gives 50 of 100, slip 25, take and soft nothing
        FlyWheels first = told("soft 5 0;join 0;load 99;");
        first.alter(0, 3, 100);
        due("KIND 0", first.kind(0, 2, 0), 0);
        due("how much", first.kind(0, 2, 1), 50);
        // take and soft alike: what swings stays out of reach of WHEEL 1, plain gives it away
        FlyWheels two = told("plain 5 0;plain 20 9;join 0;join 1;load 99;");
        two.alter(0, 3, 10);
        due("KIND 0 gives", two.kind(0, 3, 0), 0);
        two.turn(8);
        two.alter(1, 3, 0);
        two.set(2, 101);
        due("of several the first: all alike", two.kind(0, 3, 0), 0);
        due("how much", two.kind(0, 3, 1), 1);
    }

    private static void bears() {
        sentence(24, "The greatest LOSS of a WHEEL by which nothing LACKS in n TICKS (0 to 200). BAD; NONE: by none.");
        Check.taken("n", n -> swinging(200, "plain 5 0;load 1;").bears(0, n), 0, 9, 200, 9);
        FlyWheels short1 = swinging(199, "plain 5 0;load 1;");
        due("199 of 200", short1.bears(0, 199), 9);
        due("200 of 199", short1.bears(0, 200), NONE);
        Check.taken("WHEEL", w -> told(FOUR_WHEELS).bears(w, 9), 0, 9, 3, 9);
        due("no WHEELS", new FlyWheels().bears(0, 0), BAD);
        // (99 - LOSS) / 2 goes to the wheel, the rest to the shaft
        int[][] rows = {{45, 9}, {46, 8}, {47, 6}, {48, 4}, {49, 2}, {50, 0}, {51, NONE}};
        for (int[] row : rows) {
            FlyWheels x = told("plain 5 0;drive 0;join 0;");
            x.add(100 + row[0]);
            x.alter(0, 3, 99);
            due("a load of " + row[0], x.bears(0, 3), row[1]);
            due("LOSS is as it was", x.wheel(0, 2), 0);
        }
        FlyWheels before = told("plain 5 0;load 1;");
        before.ticks(5);
        due("LACK before does not count", before.bears(0, 0), 9);
    }

    private static void swap() {
        sentence(25, "Two ACTS that are to change places so that most is DONE in n TICKS (0 to 200), "
            + "more than as it is: 100 times the lesser and the greater, of several the least (what 0), how much (1). "
            + "BAD; NONE: by none.");
        String late = "load 9;drive 9;";
        Check.taken("n", n -> told(late).swap(n, 1), 0, NONE, 200, 900);
        due("n 1", told(late).swap(1, 1), NONE);
        due("n 2", told(late).swap(2, 1), 9);
        Check.taken("what", what -> told(late).swap(2, what), 0, 1, 1, 9);
        due("no ACTS", new FlyWheels().swap(200, 0), NONE);
        due("one ACT", swinging(9, "load 9;").swap(200, 0), NONE);
        due("as much as it is is not more", told("drive 9;load 9;").swap(2, 0), NONE);
        due("as much as it is is not more", told("drive 9;load 9;").swap(2, 1), NONE);
        // 0 with 1 and 0 with 2 do 7 each
        due("of several the least", told("load 7;drive 7;drive 7;").swap(3, 0), 1);
        due("of several the least", told("load 7;load 7;drive 7;").swap(3, 0), 2);
        FlyWheels last = atTick(14, IDLE_ACTS);
        last.set(14, 109);
        last.set(15, 9);
        due("the last two", last.swap(2, 0), 1415);
        due("the last two", last.swap(2, 1), 9);
        due("ACT 14 is as it was", last.act(14), 109);
        due("ACT 15 is as it was", last.act(15), 9);
        FlyWheels ends = atTick(16, IDLE_ACTS);
        ends.set(0, 109);
        ends.set(15, 9);
        // the drive must come ahead of the load: with any ACT between them it is done too late
        due("the first and the last", ends.swap(16, 0), 15);
    }

    private static void omit() {
        sentence(26, "The ACT that had better not be done (nothing in its TICKS but LOSSES) so that most is DONE "
            + "in n TICKS (0 to 200), more than as it is, of several the first (what 0), how much (1). BAD; NONE: none.");
        String worse = "take 5 0;drive 8;join 0;load 8;";
        due("n 3", told(worse).omit(3, 1), 8);
        // 66 rounds whole, then a drive and a join
        Check.taken("n", n -> told(worse).omit(n, 1), 0, NONE, 200, 8 * 66);
        due("n 2", told(worse).omit(2, 1), NONE);
        Check.taken("what", what -> told(worse).omit(3, what), 0, 1, 1, 8);
        due("no ACTS", new FlyWheels().omit(200, 0), NONE);
        due("as much as it is is not more", told("drive 9;load 9;load 0;").omit(3, 0), NONE);
        due("as much as it is is not more", told("drive 9;load 9;load 0;").omit(3, 1), NONE);
        due("of several the first", told("plain 5 0;plain 5 0;drive 90;join 0;join 1;load 90;").omit(4, 0), 1);
        FlyWheels last = atTick(15, "plain 5 0;" + IDLE_ACTS);
        last.turn(90);
        last.set(15, 200);
        last.set(0, 190);
        due("the last ACT", last.omit(2, 0), 15);
        due("the last ACT", last.omit(2, 1), 90);
        due("it is as it was", last.act(15), 200);
        FlyWheels first = swinging(90, "plain 5 0;join 0;load 90;");
        due("the first ACT", first.omit(2, 0), 0);
        FlyWheels losses = swinging(20, "plain 5 9;plain 5 0;join 1;join 0;load 99;");
        losses.alter(0, 3, 60);
        // as it is: 51 and 10, 31 is left; without ACT 0: 51 and 20, 36 is left (40, were there no LOSS in its TICK)
        due("as it is", losses.runs(3, 0), 31);
        due("LOSSES in its TICK", losses.omit(3, 0), 0);
        due("LOSSES in its TICK", losses.omit(3, 1), 36);
    }

    private static void off() {
        sentence(27, "The WHEEL that had better be taken off (joining it does nothing) so that most is DONE "
            + "in n TICKS (0 to 200), more than as it is, of several the first (what 0), how much (1). BAD; NONE: none.");
        String worse = "take 5 0;drive 8;join 0;load 8;";
        due("n 3", told(worse).off(3, 1), 8);
        Check.taken("n", n -> told(worse).off(n, 1), 0, NONE, 200, 8 * 66);
        due("n 2", told(worse).off(2, 1), NONE);
        Check.taken("what", what -> told(worse).off(3, what), 0, 0, 1, 8);
        due("no WHEELS", swinging(9, "join 0;load 9;").off(200, 0), NONE);
        due("no ACTS", told(FOUR_WHEELS).off(200, 0), NONE);
        due("as much as it is is not more", told("plain 5 0;drive 9;load 9;").off(2, 0), NONE);
        due("as much as it is is not more", told("plain 5 0;drive 9;load 9;").off(2, 1), NONE);
        for (int w = 0; w < 4; w++) {
            FlyWheels x = swinging(90, "plain 5 0;plain 5 0;plain 5 0;plain 5 0;drive 0;load 90;");
            x.set(0, 200 + w);
            due("WHEEL " + w, x.off(2, 0), w);
            due("WHEEL " + w, x.off(2, 1), 90);
            due("WHEELS are as they were", x.rule(0), 4);
        }
        due("of several the first", told("plain 5 0;plain 5 0;drive 90;join 0;join 1;load 90;").off(4, 0), 0);
        due("all its joins", told("plain 5 0;drive 90;join 0;join 0;load 90;").off(4, 1), 90);
    }

    // ---- drives that fail

    private static void luck() {
        sentence(28, "In each of n TICKS (0 to 8) drives fail by v out of ten (0 to 10), by itself "
            + "(a drive does nothing; all else is as ever): that nothing LACKS in them: 0, 1. BAD.");
        String pairs = "drive 9;load 9;";
        Check.taken("v", v -> told(pairs).luck(v, 2, 0), 0, 1, 10, 0);
        Check.taken("n", n -> told(pairs).luck(1, n, 0), 0, 1, 8, 6561);
        Check.taken("n", n -> told(pairs).luck(1, n, 1), 0, 1, 8, 10000);
        Check.taken("what", what -> told(pairs).luck(3, 2, what), 0, 7, 1, 10);
        due("v 1", told(pairs).luck(1, 2, 0), 9);
        due("v 9", told(pairs).luck(9, 2, 0), 1);
        due("v 9", told(pairs).luck(9, 2, 1), 10);
        due("v 0 and no drive", told("load 1;").luck(0, 1, 0), 0);
        due("v 10 and no load", told("drive 1;").luck(10, 8, 0), 1);
        due("no ACTS", new FlyWheels().luck(10, 8, 0), 1);
        due("all else is as ever", swinging(72, "load 9;").luck(10, 8, 0), 1);
        due("all else is as ever", swinging(71, "load 9;").luck(10, 8, 0), 0);
        due("LACK before does not count", atTick(1, "load 9;drive 9;").luck(1, 2, 0), 9);
        // eight drives that all must do: .9 to the eighth
        FlyWheels eight = told("drive 1;drive 1;drive 1;drive 1;drive 1;drive 1;drive 1;load 7;");
        due("all eight", eight.luck(1, 8, 0), 4782969);
        due("all eight", eight.luck(1, 8, 1), 10000000);
    }

    private static void mean() {
        sentence(29, "Likewise, the mean of what is DONE in them: 0, 1. BAD.");
        String pairs = "drive 9;load 9;";
        Check.taken("v", v -> told(pairs).mean(v, 2, 0), 0, 9, 10, 0);
        Check.taken("n", n -> told(pairs).mean(0, n, 0), 0, 0, 8, 36);
        Check.taken("n", n -> told(pairs).mean(1, n, 1), 0, 1, 8, 5);
        Check.taken("what", what -> told(pairs).mean(1, 2, what), 0, 81, 1, 10);
        due("v 1, n 8: 32.4", told(pairs).mean(1, 8, 0), 162);
        due("no ACTS", new FlyWheels().mean(5, 8, 0), 0);
        due("no ACTS", new FlyWheels().mean(5, 8, 1), 1);
        due("all else is as ever", swinging(99, "load 9;").mean(10, 8, 0), 72);
        due("DONE before does not count", atTick(2, pairs).mean(0, 2, 0), 9);
        due("the greatest", swinging(800, "load 99;").mean(5, 8, 0), 792);
    }

    // ---- what was seen

    private static void see() {
        sentence(30, "SEEN: behind n TICKS (0 to 40) a WHEEL SWINGS v (0 to 9999999): how many are. BAD; FULL.");
        Check.taken("n", n -> told("plain 5 0;").see(n, 0, 0), 0, 1, 40, 1);
        Check.taken("WHEEL", w -> told(FOUR_WHEELS).see(0, w, 0), 0, 1, 3, 1);
        Check.taken("v", v -> told("plain 5 0;").see(0, 0, v), 0, 1, 9999999, 1);
        due("no WHEELS", new FlyWheels().see(0, 0, 0), BAD);
        FlyWheels x = told("plain 5 0;");
        for (int i = 1; i <= 6; i++) {
            due("SEEN", x.see(40, 0, 0), i);
        }
        due("a 7th", x.see(0, 0, 0), FULL);
        due("a 7th of 9999999", x.see(0, 0, 9999999), FULL);
        due("a 7th, not as told", x.see(0, 0, 10000000), BAD);
        due("SEEN", x.count(0), 6);
        due("they are as they were", x.losses(0), 1023);
        x.forget(5);
        due("a 6th again", x.see(0, 0, 1), 6);
        due("the 6th counts", x.losses(0), 0);
    }

    private static void forget() {
        sentence(31, "SEEN are the first n alone: how many there were. BAD.");
        Check.taken("forget of 0", n -> told("plain 5 0;").forget(n), 0, 0, 0, 0);
        Check.taken("forget of 6", n -> sixSeen().forget(n), 0, 6, 6, 6);
        FlyWheels x = sixSeen();
        due("all six", x.losses(0), 0);
        due("forget(5)", x.forget(5), 6);
        due("forget(6) of 5", x.forget(6), BAD);
        due("SEEN", x.count(0), 5);
        due("the first five", x.losses(0), 1023);
        due("forget(0)", x.forget(0), 5);
        due("SEEN", x.count(0), 0);
    }

    /** Five that are so, and a sixth that is not. */
    private static FlyWheels sixSeen() {
        FlyWheels x = told("plain 5 0;");
        for (int i = 0; i < 6; i++) {
            x.see(i, 0, i / 5);
        }
        return x;
    }

    private static void kinds() {
        sentence(32, "KINDS of a WHEEL (bits) by which, all else as it is, all is as SEEN. BAD. "
            + "(What is SEEN of a WHEEL that is there no more is never so.)");
        Check.taken("WHEEL", w -> told(FOUR_WHEELS).kinds(w), 0, 15, 3, 15);
        due("no WHEELS", new FlyWheels().kinds(0), BAD);
        // 90 at the shaft: plain 45, slip 22, take 45, soft 20
        int[][] rows = {{45, 5}, {22, 2}, {20, 8}, {21, 0}, {9999999, 0}};
        for (int[] row : rows) {
            FlyWheels x = swinging(90, "plain 5 0;slip 5 0;join 0;");
            x.see(1, 0, row[0]);
            due("KINDS by " + row[0], x.kinds(0), row[1]);
            due("KIND is as it was", x.wheel(0, 0), 0);
            x.see(0, 0, 0);
            due("behind 0", x.kinds(0), row[1]);
            x.see(0, 0, 1);
            due("not all is as SEEN", x.kinds(0), 0);
        }
        FlyWheels x = told("plain 5 0;slip 5 0;");
        x.see(40, 1, 0);
        due("behind 40", x.kinds(0), 15);
        x.cut(1);
        due("a WHEEL that is there no more", x.kinds(0), 0);
        x.put(3, 1, 1);
        due("a WHEEL that is there again", x.kinds(0), 15);
    }

    private static void losses() {
        sentence(33, "LOSSES of a WHEEL (bits 0 to 9) by which, all else as it is, all is as SEEN. BAD.");
        Check.taken("WHEEL", w -> told(FOUR_WHEELS).losses(w), 0, 1023, 3, 1023);
        due("no WHEELS", new FlyWheels().losses(0), BAD);
        for (int loss = 0; loss <= 9; loss++) {
            FlyWheels x = told("plain 5 4;");
            x.alter(0, 3, 360);
            x.see(40, 0, 360 - 40 * loss);
            due("LOSS " + loss, x.losses(0), 1 << loss);
            due("LOSS is as it was", x.wheel(0, 2), 4);
        }
        FlyWheels x = told("plain 5 4;slip 5 0;");
        x.alter(0, 3, 360);
        x.see(40, 0, 1);
        due("none", x.losses(0), 0);
        x.forget(0);
        x.see(3, 1, 0);
        due("another WHEEL is as SEEN", x.losses(0), 1023);
        x.cut(1);
        due("a WHEEL that is there no more", x.losses(0), 0);
    }

    private static void ask() {
        sentence(34, "Behind how many TICKS (0 to 40) to look how much a WHEEL SWINGS, so that of losses() of it "
            + "fewest are left at the worst, fewer than now, the first (what 0), how many these are (1). "
            + "BAD; NONE: behind none.");
        FlyWheels apart = told("plain 5 0;slip 5 0;take 5 0;soft 5 0;");
        for (int w = 0; w < 4; w++) {
            apart.alter(w, 3, 9);
        }
        Check.taken("WHEEL", w -> apart.ask(w, 0), 0, 1, 3, 1);
        Check.taken("what", what -> apart.ask(0, what), 0, 1, 1, 1);
        due("no WHEELS", new FlyWheels().ask(0, 0), BAD);
        apart.alter(0, 3, 8);
        due("LOSSES 8 and 9 are alike", apart.ask(0, 1), 2);
        due("the first", apart.ask(0, 0), 1);
        apart.alter(0, 3, 0);
        due("all are alike for ever", apart.ask(0, 0), NONE);
        due("all are alike for ever", apart.ask(0, 1), NONE);
        apart.alter(0, 3, 9);
        for (int loss = 0; loss <= 9; loss++) {
            apart.forget(0);
            apart.see(1, 0, 9 - loss);
            due("LOSS " + loss + " is left already", apart.losses(0), 1 << loss);
            due("LOSS " + loss + " is left already", apart.ask(0, 0), NONE);
            due("LOSS " + loss + " is left already", apart.ask(0, 1), NONE);
        }
        apart.see(1, 0, 2);
        due("none is left already", apart.ask(0, 0), NONE);
        due("none is left already", apart.ask(0, 1), NONE);
        // THE SHAFT swings 21 behind 39: the WHEEL then swings 1, if it loses nothing
        FlyWheels late = swinging(1, "shaft 20;plain 1 0;drive 1;join 0;");
        due("behind 40", late.ask(0, 0), 40);
        due("behind 40", late.ask(0, 1), 9);
        due("behind 41 is too late", told("shaft 20;plain 1 0;join 0;drive 1;").ask(0, 0), NONE);
        due("behind 42 is too late", told("shaft 20;plain 1 0;drive 1;join 0;").ask(0, 0), NONE);
        FlyWheels left = told("plain 5 0;");
        left.alter(0, 3, 4);
        left.see(1, 0, 0);
        due("4 to 9 are alike for ever", left.losses(0), 0x3f0);
        due("fewer than now: behind none", left.ask(0, 0), NONE);
    }

    // ---- by a seed

    private static void drift() {
        sentence(35, "By itself, n TICKS (1 to 200) by a seed: ahead of each the seed becomes seed times 1103515245 "
            + "and 12345; bits 16 to 30 of it are got: got modulo 204 is the ACT of that TICK "
            + "(in place of that of ACTS): what is DONE in them (what 0), what all SWING in the end, THE SHAFT too (1). "
            + "BAD; STATE: there are no WHEELS.");
        FlyWheels x = swinging(70, "plain 5 0;");
        // seed 1: 16838 is got, a load of 10
        due("n 1", x.drift(1, 1, 0), 10);
        due("n 1", x.drift(1, 1, 1), 60);
        due("n 0", x.drift(1, 0, 0), BAD);
        due("n 201", x.drift(1, 201, 0), BAD);
        due("n least", x.drift(1, LEAST, 0), BAD);
        due("n most", x.drift(1, MOST, 0), BAD);
        Check.taken("what", what -> x.drift(1, 1, what), 0, 10, 1, 60);
        x.cut(0);
        due("no WHEELS", x.drift(1, 1, 0), STATE);
        due("no WHEELS, not as told", x.drift(1, 1, 2), BAD);
        due("no WHEELS, not as told", x.drift(1, 201, 0), BAD);
        for (int seed : new int[] {0, 1, -1, LEAST, MOST, 12345, 2147480000}) {
            for (int n : new int[] {1, 2, 199, 200}) {
                driftAsByHand(seed, n, FOUR_WHEELS + "load 77;");
                driftAsByHand(seed, n, "plain 5 1;");
            }
        }
        for (int act = 0; act < 204; act++) {
            driftAsByHand(seedOf(act), 1, FOUR_WHEELS);
        }
    }

    private static int actOf(int seed) {
        long bits = Math.floorMod(seed * 1103515245L + 12345L, 1L << 31);
        return (int) (bits / 65536 % 204);
    }

    private static int seedOf(int act) {
        int seed = 0;
        while (actOf(seed) != act) {
            seed++;
        }
        return seed;
    }

    /** The same ACTS, set one by one; DONE and what all SWING are asked behind them. */
    private static void driftAsByHand(int seed, int n, String text) {
        FlyWheels x = swinging(90, text);
        int done = x.drift(seed, n, 0);
        int all = x.drift(seed, n, 1);
        due("drift changes nothing", x.rule(2) * 1000 + x.rule(6), 90);
        FlyWheels hand = swinging(90, text);
        hand.drop(0);
        hand.add(0);
        int s = seed;
        for (int t = 0; t < n; t++) {
            hand.set(0, actOf(s));
            hand.ticks(1);
            s = (int) (s * 1103515245L + 12345L);
        }
        due("DONE of seed " + seed + " in " + n, done, hand.rule(3));
        due("all SWING of seed " + seed + " in " + n, all, allSwing(hand));
    }

    // ---- images, sheets

    private static void keep() {
        sentence(36, "IMAGE k (0, 1) is THE SHAFT, WHEELS, ACTS (all of them), TICK, DONE, LACK: "
            + "whether there was one (1, 0). BAD.");
        Check.taken("IMAGE", k -> new FlyWheels().keep(k), 0, 0, 1, 0);
        FlyWheels x = new FlyWheels();
        due("keep(1)", x.keep(1), 0);
        due("keep(1) again", x.keep(1), 1);
        due("keep(0)", x.keep(0), 0);
        due("keep(0) again", x.keep(0), 1);
        due("keep(2)", x.keep(2), BAD);
        due("keep(-1)", x.keep(-1), BAD);
        due("IMAGES", x.count(1), 2);
        Check.tell(x, "");
        due("IMAGES are gone", x.keep(0), 0);
        due("IMAGES are gone", x.keep(1), 0);
    }

    private static void back() {
        sentence(37, "All is as IMAGE k: TICK. BAD; STATE: there is none.");
        FlyWheels none = new FlyWheels();
        for (int k : new int[] {2, -1, LEAST, MOST}) {
            due("back(" + k + ")", none.back(k), BAD);
        }
        due("back(0)", none.back(0), STATE);
        due("back(1)", none.back(1), STATE);
        none.keep(0);
        due("back(0)", none.back(0), 0);
        due("back(1)", none.back(1), STATE);
        FlyWheels x = swinging(60, FOUR_WHEELS + IDLE_ACTS + "shaft 9;");
        for (int w = 0; w < 4; w++) {
            x.alter(w, 3, 400 + w);
        }
        for (int i = 0; i < 16; i++) {
            x.set(i, 150 + i);
        }
        x.ticks(3);
        int[] rules = new int[9];
        for (int what = 0; what < 9; what++) {
            rules[what] = x.rule(what);
        }
        x.keep(1);
        changeAll(x);
        due("back(1)", x.back(1), 3);
        for (int what = 0; what < 9; what++) {
            due("rule(" + what + ")", x.rule(what), rules[what]);
        }
        for (int i = 0; i < 16; i++) {
            due("act(" + i + ")", x.act(i), 150 + i);
            due("wheel(" + i / 4 + ", " + i % 4 + ")", x.wheel(i / 4, i % 4),
                new int[] {0, 5, 0, 400, 1, 6, 1, 398, 2, 7, 2, 396, 3, 8, 3, 394}[i]);
        }
        changeAll(x);
        due("the IMAGE stays", x.back(1), 3);
        due("the IMAGE stays", x.act(15), 165);
        FlyWheels last = atTick(9999, "");
        last.keep(0);
        due("the last TICK", last.back(0), 9999);
    }

    private static void changeAll(FlyWheels x) {
        x.ticks(7);
        x.shaft(1);
        x.set(0, 1);
        x.alter(0, 0, 3);
        x.alter(0, 1, 1);
        x.alter(0, 2, 9);
        x.alter(0, 3, 9);
        x.cut(1);
        x.drop(2);
        x.add(5);
        x.put(0, 1, 1);
        x.turn(199);
    }

    private static void sheet() {
        sentence(38, "A SHEET is a new row of CELLS 0: 1. BAD: also n above 40; -10 - 4.");
        Check.taken("SHEET", k -> new FlyWheels().sheet(k, 0, 0), 0, 1, 3, 1);
        Check.taken("lane", lane -> new FlyWheels().sheet(0, lane, 0), 0, 1, 2, 1);
        for (int lane = 0; lane < 3; lane++) {
            int[][] rows = {{LEAST, -14}, {-1, -14}, {0, 1}, {1, 1}, {40, 1}, {41, BAD}, {MOST, BAD}};
            for (int[] row : rows) {
                due("n " + row[0], new FlyWheels().sheet(3, lane, row[0]), row[1]);
            }
            FlyWheels x = new FlyWheels();
            x.sheet(0, lane, 40);
            for (int i = 0; i < 40; i++) {
                x.lay(0, i, 9);
            }
            x.sheet(0, lane, 5);
            x.lay(0, 4, 7);
            due("41 more", x.sheet(0, lane, 41), BAD);
            due("-1", x.sheet(0, lane, -1), -14);
            due("lane 3", x.sheet(0, 3, 2), BAD);
            due("what was refused left it", x.count(3), 5);
            due("what was refused left it", x.read(0, lane, 4, 1), 1);
            due("what was refused left it", x.act(0), 7);
            for (int i = 0; i < 5; i++) {
                x.lay(0, i, 9);
            }
            due("a new row", x.sheet(0, (lane + 1) % 3, 40), 1);
            for (int i = 0; i < 40; i++) {
                x.drop(0);
                due("CELL " + i, x.read(0, (lane + 1) % 3, i, 1), 1);
                due("CELL " + i + " is 0", x.act(0), 0);
            }
        }
        due("BAD ahead of SIZE: SHEET", new FlyWheels().sheet(4, 0, -1), BAD);
        due("BAD ahead of SIZE: lane", new FlyWheels().sheet(0, -1, -1), BAD);
    }

    private static void lay() {
        sentence(39, "CELL i of a SHEET becomes v (its lowest bits): 1. BAD: k; -10 less the FAULT: NULL, INDEX.");
        for (int k : new int[] {-1, 4, LEAST, MOST}) {
            due("lay of SHEET " + k, new FlyWheels().lay(k, 0, 0), BAD);
        }
        for (int k = 0; k < 4; k++) {
            FlyWheels x = new FlyWheels();
            due("NULL", x.lay(k, 0, 0), -11);
            due("NULL ahead of INDEX", x.lay(k, 99, 0), -11);
            x.sheet(k, k % 3, 40);
            due("CELL 0", x.lay(k, 0, 1), 1);
            due("CELL 39", x.lay(k, 39, 1), 1);
            for (int i : new int[] {-1, 40, LEAST, MOST}) {
                due("CELL " + i, x.lay(k, i, 1), -12);
            }
            due("the other SHEET", x.lay((k + 1) % 4, 0, 0), -11);
            x.sheet(k, k % 3, 0);
            due("no CELLS", x.lay(k, 0, 0), -12);
        }
        // what is laid in a lane, and what is read there: its lowest bits, with a sign
        laid(0, 127, 127);
        laid(0, 128, -128);
        laid(0, -1, -1);
        laid(0, 255, -1);
        laid(0, 256, 0);
        laid(0, 256 + 127, 127);
        laid(0, -256 + 5, 5);
        laid(0, LEAST, 0);
        laid(0, MOST, -1);
        laid(1, 203, 203);
        laid(1, 32768 + 5, -32763);
        laid(1, 65536, 0);
        laid(1, 65536 + 203, 203);
        laid(1, -65536 + 203, 203);
        laid(1, 256 + 5, 261);
        laid(1, LEAST, 0);
        laid(1, MOST, -1);
        laid(2, 203, 203);
        laid(2, 65536 + 5, 65541);
        laid(2, LEAST, LEAST);
        laid(2, MOST, MOST);
    }

    private static void laid(int lane, int v, int cell) {
        FlyWheels x = new FlyWheels();
        x.sheet(0, lane, 1);
        due("lay of " + v, x.lay(0, 0, v), 1);
        boolean isAct = 0 <= cell && cell <= 203;
        due("lane " + lane + ", read of " + v, x.read(0, lane, 0, 1), isAct ? 1 : -20);
        due("lane " + lane + ", ACT of " + v, x.act(0), isAct ? cell : BAD);
    }

    private static FlyWheels withSheet(int lane, int... cells) {
        FlyWheels x = new FlyWheels();
        x.sheet(3, lane, cells.length);
        for (int i = 0; i < cells.length; i++) {
            x.lay(3, i, cells[i]);
        }
        return x;
    }

    private static void read() {
        sentence(40, "n (0 to 40) ACTS are read of a SHEET taken as of a lane, a CELL each from CELL f on, "
            + "one behind another as by add(): how many came.");
        for (int lane = 0; lane < 3; lane++) {
            FlyWheels x = withSheet(lane, 1, 102, 3);
            due("n 0", x.read(3, lane, 0, 0), 0);
            due("n 2 from CELL 1", x.read(3, lane, 1, 2), 2);
            due("one behind another", x.act(0), 102);
            due("one behind another", x.act(1), 3);
            due("n 3 from CELL 0", x.read(3, lane, 0, 3), 3);
            due("behind all others", x.act(2), 1);
            due("ACTS", x.rule(1), 5);
        }
        readToFull();
        sentence(40, "What the machine refuses: those ahead came (its FAULT is asked by torn()).");
        readTorn();
        sentence(40, "BAD: k, lane, n; -20 less i: the i-th is refused by add() (in either way): then none came; "
            + "the first met.");
        Check.taken("SHEET", k -> withSheet(0, 1).read(k, 0, 0, 1), 0, 0, 3, 1);
        Check.taken("lane", lane -> withSheet(2, 1).read(3, lane, 0, 1), 0, 0, 2, 1);
        Check.taken("n", n -> withSheet(0, 1).read(3, 0, 0, n), 0, 0, 40, 1);
        readRefused();
    }

    private static void readToFull() {
        FlyWheels x = new FlyWheels();
        x.sheet(0, 0, 40);
        due("16 of 40", x.read(0, 0, 24, 16), 16);
        due("ACTS", x.rule(1), 16);
        due("none, when it is FULL", x.read(0, 0, 0, 0), 0);
        x.drop(0);
        due("40 of no CELLS", x.read(0, 0, 40, 40), 0);
        due("the last CELL", x.read(0, 0, 39, 40), 1);
    }

    private static void readTorn() {
        FlyWheels x = withSheet(1, 1, 102, 3);
        due("INDEX behind one", x.read(3, 1, 2, 2), 1);
        due("torn", x.torn(), 2);
        due("that ahead came", x.act(0), 3);
        due("INDEX behind three", x.read(3, 1, 0, 40), 3);
        due("torn", x.torn(), 2);
        due("ACTS", x.rule(1), 4);
        for (int f : new int[] {3, -1, LEAST, MOST}) {
            x.read(3, 1, 0, 0);
            due("INDEX at " + f, x.read(3, 1, f, 40), 0);
            due("torn at " + f, x.torn(), 2);
        }
        due("CAST", x.read(3, 0, 0, 3), 0);
        due("torn", x.torn(), 3);
        due("NULL", x.read(2, 1, 0, 3), 0);
        due("torn", x.torn(), 1);
        due("ACTS", x.rule(1), 4);
    }

    private static void readRefused() {
        FlyWheels x = withSheet(2, 203, 204, 0, -1, 0);
        due("204 as the 0-th", x.read(3, 2, 1, 1), -20);
        due("204 as the 1st", x.read(3, 2, 0, 5), -21);
        due("-1 as the 1st", x.read(3, 2, 2, 3), -21);
        due("none came", x.rule(1), 0);
        due("ahead of both", x.read(3, 2, 2, 1), 1);
        due("refused ahead of INDEX", x.read(3, 2, 3, 9), -20);
        due("INDEX ahead of what is refused", x.read(3, 2, 5, 9), 0);
        due("torn", x.torn(), 2);
        due("ACTS", x.rule(1), 1);
        FlyWheels full = new FlyWheels();
        full.sheet(0, 0, 40);
        due("FULL as the 16-th", full.read(0, 0, 0, 17), -36);
        due("FULL as the 16-th", full.read(0, 0, 0, 40), -36);
        due("none came", full.rule(1), 0);
        full.add(9);
        due("FULL as the 15-th", full.read(0, 0, 0, 16), -35);
        due("to the full", full.read(0, 0, 0, 15), 15);
        due("FULL as the 0-th", full.read(0, 0, 0, 1), -20);
        due("ACTS", full.rule(1), 16);
        due("the first is as it was", full.act(0), 9);
        due("INDEX ahead of FULL", full.read(0, 0, 40, 1), 0);
        due("CAST ahead of FULL", full.read(0, 1, 0, 1), 0);
        due("NULL ahead of FULL", full.read(1, 1, 0, 1), 0);
        due("torn", full.torn(), 1);
    }

    private static void torn() {
        sentence(41, "The FAULT of the latest read() that came to an end; 0.");
        FlyWheels x = withSheet(0, 1, 2, -1);
        due("no read()", x.torn(), 0);
        x.read(3, 0, 0, 2);
        due("one that is well", x.torn(), 0);
        x.read(3, 0, 3, 1);
        due("INDEX", x.torn(), 2);
        x.read(3, 0, 0, 41);
        due("BAD came to no end", x.torn(), 2);
        x.read(4, 0, 0, 1);
        due("BAD came to no end", x.torn(), 2);
        x.read(3, 0, 1, 2);
        due("one refused by add() came to no end", x.torn(), 2);
        x.lay(3, 9, 0);
        x.sheet(3, 0, -1);
        due("of read() alone", x.torn(), 2);
        x.read(3, 1, 0, 1);
        due("CAST", x.torn(), 3);
        x.read(0, 1, 0, 1);
        due("NULL", x.torn(), 1);
        x.read(3, 0, 0, 1);
        due("one that is well", x.torn(), 0);
    }

    private static void count() {
        sentence(42, "How many: 0 SEEN, 1 IMAGES, 2 bytes on THE TAPE, 3 CELLS of SHEET 0 (NONE: nothing), "
            + "4 MASSES of all WHEELS, 5 LOSSES of all. BAD.");
        int[] empty = {0, 0, 0, NONE, 0, 0};
        for (int what = 0; what < 6; what++) {
            due("count(" + what + ") of nothing", new FlyWheels().count(what), empty[what]);
        }
        FlyWheels x = told("plain 20 9;slip 20 9;take 20 9;soft 20 9;");
        for (int i = 0; i < 6; i++) {
            x.see(0, 0, 0);
        }
        x.keep(1);
        due("one IMAGE", x.count(1), 1);
        x.keep(0);
        Check.feedAll(x, " ".repeat(160));
        x.sheet(1, 0, 7);
        due("another SHEET", x.count(3), NONE);
        x.sheet(0, 0, 0);
        due("no CELLS", x.count(3), 0);
        x.sheet(0, 0, 40);
        int[] full = {6, 2, 160, 40, 80, 36};
        for (int what = 0; what < 6; what++) {
            due("count(" + what + ") of all", x.count(what), full[what]);
        }
        Check.taken("what", x::count, 0, 6, 5, 36);
        x.cut(1);
        due("MASSES of those that there are", x.count(4), 20);
        due("LOSSES of those that there are", x.count(5), 9);
    }

    private static void telling() {
        newObject();
        feed();
        end();
        text();
        fault();
        rule();
        wheel();
        act();
    }

    private static void changing() {
        alter();
        shaft();
        put();
        cut();
        set();
        add();
        drop();
        turn();
    }

    private static void asking() {
        ticks();
        runs();
        ahead();
        when();
        again();
        mass();
        kind();
        bears();
        swap();
        omit();
        off();
        luck();
        mean();
    }

    private static void keeping() {
        see();
        forget();
        kinds();
        losses();
        ask();
        drift();
        keep();
        back();
        sheet();
        lay();
        read();
        torn();
        count();
    }

    public static void main(String[] args) {
        telling();
        changing();
        asking();
        keeping();
        Check.allQuoted(1, 42, "\\S+");
        Check.end("the promises' bounds");
    }
}
