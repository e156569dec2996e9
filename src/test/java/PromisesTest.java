/** Each promise of the document by its number: ordinary inputs, the edges, wrong inputs. */
public final class PromisesTest {
    private static final int BAD = -1, STATE = -2, FULL = -3, NONE = -4;
    private static final int LEAST = Integer.MIN_VALUE, MOST = Integer.MAX_VALUE;
    private static int wrong = 0;
    private static int promise = 0;

    private static void due(String call, long got, long want) {
        if (got != want) {
            wrong++;
            System.out.println("promise " + promise + ": " + call + " answered " + got + ", due is " + want);
        }
    }

    private static int tell(FlyWheels x, String text) {
        feedAll(x, text);
        return x.text();
    }

    private static void feedAll(FlyWheels x, String text) {
        for (int i = 0; i < text.length(); i++) {
            x.feed(text.charAt(i));
        }
    }

    private static FlyWheels told(String text) {
        FlyWheels x = new FlyWheels();
        if (tell(x, text) < 0) {
            due("the text " + text, -1, 0);
        }
        return x;
    }

    private static void taken(String text, int lines) {
        FlyWheels x = new FlyWheels();
        due("text of '" + text + "'", tell(x, text), lines);
        due("fault of '" + text + "'", x.fault(), 0);
    }

    private static void refused(String text, int place, int fault) {
        FlyWheels x = told("slip 3 4; shaft 7; load 9;");
        due("text of '" + text + "'", tell(x, text), -10 - place);
        due("fault of '" + text + "'", x.fault(), fault);
        due("what was told stays", x.rule(5) * 100 + x.rule(0) * 10 + x.rule(1), 711);
        due("the tape is empty", x.count(2), 0);
    }

    private static void newObject() {
        FlyWheels x = new FlyWheels();
        due("WHEELS", x.rule(0), 0);
        due("ACTS", x.rule(1), 0);
        due("TICK", x.rule(2), 0);
        due("DONE", x.rule(3), 0);
        due("LACK", x.rule(4), 0);
        due("MASS", x.rule(5), 5);
        due("SWINGS", x.rule(6), 0);
        due("fault", x.fault(), 0);
        due("torn", x.torn(), 0);
        for (int k = 0; k < 4; k++) {
            due("lay on nothing", x.lay(k, 0, 0), -11);
        }
        due("count(3)", x.count(3), NONE);
        due("back(0)", x.back(0), STATE);
        due("back(1)", x.back(1), STATE);
        due("count(0)", x.count(0), 0);
        due("count(1)", x.count(1), 0);
        due("count(2)", x.count(2), 0);
    }

    private static void feed() {
        FlyWheels x = new FlyWheels();
        due("feed(-1)", x.feed(-1), BAD);
        due("feed(128)", x.feed(128), BAD);
        due("feed(least)", x.feed(LEAST), BAD);
        due("feed(0)", x.feed(0), 1);
        due("feed(127)", x.feed(127), 2);
        for (int i = 3; i <= 160; i++) {
            due("feed", x.feed(32), i);
        }
        due("feed the 161st", x.feed(32), FULL);
        due("feed(128) when full", x.feed(128), BAD);
        due("count(2)", x.count(2), 160);
    }

    private static void end() {
        FlyWheels x = new FlyWheels();
        due("end(0) of nothing", x.end(0), 0);
        feedAll(x, "drive 5;load 1");
        due("end(15)", x.end(15), BAD);
        due("end(-1)", x.end(-1), BAD);
        due("end(14)", x.end(14), 14);
        due("end(8)", x.end(8), 14);
        due("count(2)", x.count(2), 8);
        due("text", x.text(), 1);
        due("act(0)", x.act(0), 5);
        due("end(1) of an empty tape", x.end(1), BAD);
    }

    private static void text() {
        taken("", 0);
        taken("   ", 0);
        taken("plain 20 9;slip 1 0;take 05 00;soft 7 3;shaft 20;drive 99;load 0;join 3;", 8);
        taken("plain12 1;drive5 ; join  0;", 3);
        refused("drive 100;", 6, 1);
        refused("drive 000", 6, 1);
        refused("drive 1 234", 8, 1);
        refused("drive 1!", 7, 1);
        refused("Drive 1;", 0, 1);
        refused("drive\n1;", 5, 1);
        refused("drive -1;", 6, 1);
        refused(" ;", 1, 2);
        refused("7;", 0, 2);
        refused("drive 1;;", 8, 2);
        refused("driv 1;", 0, 2);
        refused("drives 1;", 0, 2);
        refused("drive x;", 6, 2);
        refused("drive 1 2;", 8, 2);
        refused("drive 1 load", 8, 2);
        refused("plain 1;", 7, 2);
        refused("plain 1", 7, 2);
        refused("drive", 5, 2);
        refused("drive   ", 8, 2);
        refused("drive 1  ", 9, 2);
        refused("plain 0 !", 6, 3);
        refused("plain 21 1;", 6, 3);
        refused("plain 1 10;", 8, 3);
        refused("shaft 0;", 6, 3);
        refused("shaft 21;", 6, 3);
        refused("join 4;", 5, 3);
        refused("shaft 2;shaft !", 8, 4);
        refused("shaft 0;shaft 1;", 6, 3);
        refused("plain 1 1;slip 1 1;take 1 1;soft 1 1; soft !", 38, 5);
        String acts = "join 0;join 1;join 2;join 3;join 0;join 1;join 2;join 3;";
        refused(acts + acts + " load x", 113, 5);
        taken(acts + acts + "shaft 1;plain 1 1;", 18);
    }

    private static void textTellsAll() {
        FlyWheels x = told("shaft 3;soft 2 1;drive 50;load 99;");
        x.sheet(0, 0, 5);
        x.ticks(3);
        x.keep(0);
        x.keep(1);
        x.see(0, 0, 0);
        due("a fault keeps what is seen", tell(x, "x"), -10);
        due("count(0)", x.count(0), 1);
        due("count(1)", x.count(1), 2);
        due("rule(2)", x.rule(2), 3);
        due("a text", tell(x, "take 4 2;"), 1);
        for (int what = 1; what <= 4; what++) {
            due("rule", x.rule(what), 0);
        }
        due("MASS at first", x.rule(5), 5);
        due("SWINGS", x.rule(6), 0);
        due("WHEELS", x.rule(0), 1);
        due("KIND", x.wheel(0, 0), 2);
        due("SEEN", x.count(0), 0);
        due("IMAGES", x.count(1), 0);
        due("back(0)", x.back(0), STATE);
        due("back(1)", x.back(1), STATE);
        due("SHEETS stay", x.count(3), 5);
        due("an empty text", x.text(), 0);
        due("WHEELS", x.rule(0), 0);
    }

    private static void fault() {
        FlyWheels x = new FlyWheels();
        due("fault at first", x.fault(), 0);
        tell(x, "shaft 0;");
        due("fault", x.fault(), 3);
        x.feed(65);
        due("fault stays till the next text", x.fault(), 3);
        x.text();
        due("fault", x.fault(), 1);
        tell(x, "shaft 1;");
        due("fault of one that was taken", x.fault(), 0);
    }

    private static void rule() {
        FlyWheels x = told("plain 4 1;shaft 6;drive 47;load 50;load 5;");
        x.ticks(2);
        int[] want = {1, 3, 2, 47, 3, 6, 0, 0, 105};
        for (int what = 0; what <= 8; what++) {
            due("rule(" + what + ")", x.rule(what), want[what]);
        }
        x.ticks(2);
        due("SWINGS", x.rule(6), 47);
        due("SPEED is down", x.rule(7), 7);
        due("the ACT of this TICK", x.rule(8), 150);
        due("LACK", x.rule(4), 8);
        due("rule(-1)", x.rule(-1), BAD);
        due("rule(9)", x.rule(9), BAD);
        due("rule(most)", x.rule(MOST), BAD);
        x.drop(0);
        due("rule(8) without ACTS", x.rule(8), NONE);
    }

    private static void wheel() {
        FlyWheels x = told("plain 4 1;slip 7 2;take 9 3;soft 20 9;shaft 6;");
        for (int w = 0; w < 4; w++) {
            due("KIND", x.wheel(w, 0), w);
        }
        due("MASS", x.wheel(1, 1), 7);
        due("LOSS", x.wheel(2, 2), 3);
        x.alter(0, 3, 35);
        due("SWINGS", x.wheel(0, 3), 35);
        due("SPEED is down", x.wheel(0, 4), 8);
        // 35 * 4 / 10
        due("plain would SWING", x.wheel(0, 5), 14);
        x.alter(1, 3, 10);
        // (10 + 0) * 7 / 13 = 5; half of -5 towards 0 is -2
        due("slip would SWING less", x.wheel(1, 5), 8);
        x.alter(2, 3, 10);
        due("take keeps what it had", x.wheel(2, 5), 10);
        x.turn(99);
        // (10 + 99) * 7 / 13 = 58; half of 48
        due("slip would SWING more", x.wheel(1, 5), 34);
        x.alter(1, 3, 11);
        // (11 + 99) * 7 / 13 = 59; half of 48
        due("slip would SWING more", x.wheel(1, 5), 35);
        // (10 + 99) * 9 / 15
        due("take takes on", x.wheel(2, 5), 65);
        // 99 * 20 / 26 = 76
        due("soft takes on 20 at most", x.wheel(3, 5), 20);
        x.alter(3, 3, 70);
        // (70 + 99) * 20 / 26 = 130
        due("soft takes on 20 at most", x.wheel(3, 5), 90);
        x.alter(3, 3, 500);
        due("soft keeps what it had", x.wheel(3, 5), 500);
        x.alter(3, 3, 320);
        // (320 + 99) * 20 / 26 = 322
        due("soft takes on less than 20", x.wheel(3, 5), 322);
        due("wheel(4, 0)", x.wheel(4, 0), BAD);
        due("wheel(-1, 0)", x.wheel(-1, 0), BAD);
        due("wheel(0, -1)", x.wheel(0, -1), BAD);
        due("wheel(0, 6)", x.wheel(0, 6), BAD);
        x.cut(3);
        due("wheel(3, 0) cut", x.wheel(3, 0), BAD);
    }

    private static void act() {
        FlyWheels x = told("drive 7;load 7;join 2;");
        due("act(0)", x.act(0), 7);
        due("act(1)", x.act(1), 107);
        due("act(2)", x.act(2), 202);
        due("act(3)", x.act(3), BAD);
        due("act(-1)", x.act(-1), BAD);
        due("act(16)", x.act(16), BAD);
        due("act(most)", x.act(MOST), BAD);
    }

    private static void alter() {
        FlyWheels x = told("slip 7 2;plain 1 1;");
        due("KIND", x.alter(0, 0, 3), 1);
        due("KIND", x.alter(0, 0, 0), 3);
        due("KIND 4", x.alter(0, 0, 4), BAD);
        due("KIND -1", x.alter(0, 0, -1), BAD);
        due("MASS", x.alter(0, 1, 20), 7);
        due("MASS", x.alter(0, 1, 1), 20);
        due("MASS 0", x.alter(0, 1, 0), BAD);
        due("MASS 21", x.alter(0, 1, 21), BAD);
        due("LOSS", x.alter(0, 2, 9), 2);
        due("LOSS", x.alter(0, 2, 0), 9);
        due("LOSS 10", x.alter(0, 2, 10), BAD);
        due("LOSS -1", x.alter(0, 2, -1), BAD);
        due("SWINGS", x.alter(0, 3, 9999), 0);
        due("SWINGS", x.alter(0, 3, 0), 9999);
        due("SWINGS 10000", x.alter(0, 3, 10000), BAD);
        due("SWINGS -1", x.alter(0, 3, -1), BAD);
        due("what 4", x.alter(0, 4, 0), BAD);
        due("what -1", x.alter(0, -1, 0), BAD);
        due("WHEEL 2", x.alter(2, 0, 0), BAD);
        due("WHEEL -1", x.alter(-1, 0, 0), BAD);
        due("the other WHEEL", x.wheel(1, 1), 1);
        due("SWINGS is as it was", x.wheel(0, 3), 0);
    }

    private static void shaft() {
        FlyWheels x = new FlyWheels();
        due("shaft(20)", x.shaft(20), 5);
        due("shaft(1)", x.shaft(1), 20);
        due("shaft(0)", x.shaft(0), BAD);
        due("shaft(21)", x.shaft(21), BAD);
        due("shaft(-5)", x.shaft(-5), BAD);
        due("rule(5)", x.rule(5), 1);
    }

    private static void put() {
        FlyWheels x = new FlyWheels();
        due("put", x.put(0, 1, 0), 1);
        due("put", x.put(3, 20, 9), 2);
        due("KIND 4", x.put(4, 1, 0), BAD);
        due("KIND -1", x.put(-1, 1, 0), BAD);
        due("MASS 0", x.put(0, 0, 0), BAD);
        due("MASS 21", x.put(0, 21, 0), BAD);
        due("LOSS 10", x.put(0, 1, 10), BAD);
        due("LOSS -1", x.put(0, 1, -1), BAD);
        due("put", x.put(1, 5, 5), 3);
        x.alter(2, 3, 44);
        x.cut(2);
        due("put again", x.put(2, 6, 7), 3);
        due("SWINGS at first", x.wheel(2, 3), 0);
        due("MASS", x.wheel(2, 1), 6);
        due("LOSS", x.wheel(2, 2), 7);
        due("put the 4th", x.put(1, 5, 5), 4);
        due("put the 5th", x.put(1, 5, 5), FULL);
        due("BAD ahead of FULL", x.put(1, 0, 5), BAD);
    }

    private static void cut() {
        FlyWheels x = told("plain 1 1;slip 2 2;");
        due("cut(3)", x.cut(3), BAD);
        due("cut(-1)", x.cut(-1), BAD);
        due("cut(2)", x.cut(2), 2);
        due("cut(1)", x.cut(1), 2);
        due("the first is left", x.wheel(0, 0), 0);
        due("the other is gone", x.wheel(1, 0), BAD);
        due("cut(0)", x.cut(0), 1);
        due("cut(0)", x.cut(0), 0);
    }

    private static void set() {
        FlyWheels x = told("drive 1;drive 2;");
        due("set", x.set(1, 203), 2);
        due("set", x.set(1, 0), 203);
        due("set 204", x.set(0, 204), BAD);
        due("set -1", x.set(0, -1), BAD);
        due("ACT 2", x.set(2, 0), BAD);
        due("ACT -1", x.set(-1, 0), BAD);
        due("act(0)", x.act(0), 1);
        due("act(1)", x.act(1), 0);
    }

    private static void add() {
        FlyWheels x = new FlyWheels();
        due("add(-1)", x.add(-1), BAD);
        due("add(204)", x.add(204), BAD);
        for (int i = 1; i <= 16; i++) {
            due("add", x.add(187 + i), i);
        }
        due("the 17th", x.add(0), FULL);
        due("BAD ahead of FULL", x.add(204), BAD);
        due("act(15)", x.act(15), 203);
    }

    private static void drop() {
        FlyWheels x = told("drive 1;drive 2;drive 3;");
        due("drop(4)", x.drop(4), BAD);
        due("drop(-1)", x.drop(-1), BAD);
        due("drop(3)", x.drop(3), 3);
        x.ticks(2);
        due("drop(2)", x.drop(2), 3);
        due("act(2)", x.act(2), BAD);
        due("the ACT of TICK 2 by 2 ACTS", x.rule(8), 1);
        due("drop(0)", x.drop(0), 2);
        due("drop(0)", x.drop(0), 0);
    }

    private static void turn() {
        FlyWheels x = told("plain 5 3;drive 9;");
        due("turn(0)", x.turn(0), 0);
        due("turn(99)", x.turn(99), 99);
        due("turn(100)", x.turn(100), 99);
        due("turn(130)", x.turn(130), 69);
        due("DONE", x.rule(3), 30);
        due("turn(200)", x.turn(200), 35);
        due("no LOSS by hand", x.wheel(0, 3), 34);
        due("turn(199)", x.turn(199), 0);
        due("DONE", x.rule(3), 65);
        due("LACK", x.rule(4), 64);
        due("no TICK by hand", x.rule(2), 0);
        due("turn(201)", x.turn(201), STATE);
        due("turn(203)", x.turn(203), STATE);
        due("turn(200) without WHEELS", new FlyWheels().turn(200), STATE);
        due("turn(204)", x.turn(204), BAD);
        due("turn(-1)", x.turn(-1), BAD);
        due("turn(200) gives back", x.turn(200), 17);
    }

    private static void ticks() {
        FlyWheels x = told("plain 12 1;slip 7 0;shaft 4;drive 80;join 0;load 30;join 3;");
        due("ticks(0)", x.ticks(0), 0);
        due("ticks(3)", x.ticks(3), 20);
        due("LACK", x.rule(4), 10);
        due("EVEN 60 less 2 LOSSES", x.wheel(0, 3), 58);
        due("joining none does nothing", x.ticks(1), 0);
        due("LOSS all the same", x.wheel(0, 3), 57);
        due("TICK", x.rule(2), 4);
        due("ticks(101)", x.ticks(101), BAD);
        due("ticks(-1)", x.ticks(-1), BAD);
        FlyWheels y = told("drive 1;load 1;");
        for (int i = 0; i < 99; i++) {
            due("ticks(100)", y.ticks(100), 50);
        }
        due("TICK would be 10000", y.ticks(100), FULL);
        due("TICK is 9999", y.ticks(99), 49);
        due("ticks(0) at 9999", y.ticks(0), 0);
        due("ticks(1) at 9999", y.ticks(1), FULL);
        due("ticks(101) at 9999", y.ticks(101), BAD);
        due("TICK", y.rule(2), 9999);
        due("DONE", y.rule(3), 4999);
        due("BY TICKS goes beyond", y.runs(200, 0), 100);
    }

    private static void runs() {
        FlyWheels x = told("plain 12 1;shaft 4;drive 80;join 0;load 30;");
        x.ticks(3);
        x.turn(6);
        due("DONE", x.runs(3, 0), 30);
        // drive 80: 86; join: (86 + 57) * 12 / 16 = 107, 36 left; load 30: 6 left
        due("LACKS", x.runs(3, 1), 0);
        due("LOSSES", x.runs(3, 2), 3);
        due("all SWING", x.runs(3, 3), 105 + 6);
        due("greatest SPEED", x.runs(3, 4), 21);
        due("all SWING now", x.runs(0, 3), 58 + 6);
        due("SPEED now", x.runs(0, 4), 1);
        due("DONE in none", x.runs(0, 0), 0);
        due("runs(201, 0)", x.runs(201, 0), BAD);
        due("runs(-1, 0)", x.runs(-1, 0), BAD);
        due("runs(0, 5)", x.runs(0, 5), BAD);
        due("runs(0, -1)", x.runs(0, -1), BAD);
        due("nothing is changed", x.rule(2), 3);
        FlyWheels y = told("soft 1 9;load 9;");
        y.alter(0, 3, 13);
        due("LOSSES take what there is", y.runs(5, 2), 13);
        due("LACKS", y.runs(5, 1), 45);
        y.turn(90);
        due("SPEED now is the greatest", y.runs(5, 4), 18);
    }

    private static void ahead() {
        FlyWheels x = told("plain 5 1;plain 5 0;drive 80;join 0;");
        due("ahead(0, 0)", x.ahead(0, 0), 0);
        due("ahead(0, 2)", x.ahead(0, 2), 39);
        due("ahead(0, 3)", x.ahead(0, 3), 38);
        due("ahead(1, 200)", x.ahead(1, 200), 0);
        due("ahead(0, 201)", x.ahead(0, 201), BAD);
        due("ahead(0, -1)", x.ahead(0, -1), BAD);
        due("ahead(2, 0)", x.ahead(2, 0), BAD);
        due("ahead(-1, 0)", x.ahead(-1, 0), BAD);
        due("nothing is changed", x.wheel(0, 3), 0);
    }

    private static void when() {
        FlyWheels x = told("plain 5 1;plain 5 0;");
        due("when(0)", x.when(0), 0);
        x.alter(0, 3, 200);
        due("when(0)", x.when(0), 200);
        x.alter(0, 3, 201);
        due("when(0)", x.when(0), NONE);
        x.alter(1, 3, 1);
        due("when(1)", x.when(1), NONE);
        due("when(2)", x.when(2), BAD);
        due("when(-1)", x.when(-1), BAD);
        due("nothing is changed", x.wheel(0, 3), 201);
    }

    private static void again() {
        FlyWheels x = told("drive 10;load 10;drive 0;");
        due("again", x.again(), 3);
        x.ticks(1);
        due("again", x.again(), 3);
        x.set(0, 11);
        due("again", x.again(), NONE);
        // Like acts are not the same act: the turn comes round behind both.
        FlyWheels y = told("drive 0;drive 0;");
        due("again", y.again(), 2);
        FlyWheels z = told("plain 5 1;drive 0;");
        due("again", z.again(), 1);
        z.alter(0, 3, 5);
        due("again", z.again(), NONE);
        due("without ACTS", new FlyWheels().again(), 1);
    }

    private static void mass() {
        FlyWheels x = told("plain 12 0;drive 60;join 0;load 60;");
        // the less the wheel takes, the more is left: 60 - 60 / 6
        due("mass", x.mass(0, 3, 0), 1);
        due("mass", x.mass(0, 3, 1), 50);
        due("of several the least", x.mass(0, 0, 0), 1);
        due("how much", x.mass(0, 2, 1), 0);
        FlyWheels y = told("plain 12 0;load 9;join 0;load 50;");
        y.alter(0, 3, 48);
        due("mass", y.mass(0, 3, 0), 1);
        y.set(1, 99);
        due("all alike: the least", y.mass(0, 3, 0), 1);
        due("all alike", y.mass(0, 3, 1), 50);
        FlyWheels z = told("plain 1 0;join 0;load 16;join 0;drive 99;join 0;load 99;join 0;load 99;");
        z.turn(20);
        z.alter(0, 3, 20);
        int best = 0;
        int most = -1;
        for (int m = 1; m <= 20; m++) {
            z.alter(0, 1, m);
            int done = z.runs(30, 0);
            if (done > most) {
                most = done;
                best = m;
            }
        }
        z.alter(0, 1, 7);
        due("as by alter and runs", z.mass(0, 30, 0), best);
        due("as by alter and runs", z.mass(0, 30, 1), most);
        due("nothing is changed", z.wheel(0, 1), 7);
        FlyWheels great = told("shaft 18;slip 5 1;plain 14 9;join 0;load 34;join 1;join 1;join 1;join 1;join 1;join 0;");
        great.turn(60);
        great.alter(1, 3, 466);
        due("the greatest MASS", great.mass(0, 196, 0), 20);
        great.alter(0, 1, 20);
        due("as by alter and runs", great.mass(0, 196, 1), great.runs(196, 0));
        due("n 201", x.mass(0, 201, 0), BAD);
        due("n -1", x.mass(0, -1, 0), BAD);
        due("what 2", x.mass(0, 0, 2), BAD);
        due("what -1", x.mass(0, 0, -1), BAD);
        due("WHEEL 1", x.mass(1, 0, 0), BAD);
        due("WHEEL -1", x.mass(-1, 0, 0), BAD);
    }

    private static void kind() {
        FlyWheels x = told("plain 20 0;drive 99;join 0;load 99;");
        // plain takes 79, slip 39, take 79, soft 20
        due("kind", x.kind(0, 3, 0), 3);
        due("kind", x.kind(0, 3, 1), 79);
        due("of several the first", x.kind(0, 2, 0), 0);
        FlyWheels y = told("take 5 0;join 0;load 99;");
        y.alter(0, 3, 100);
        due("kind", y.kind(0, 2, 0), 0);
        due("kind", y.kind(0, 2, 1), 50);
        due("nothing is changed", y.wheel(0, 0), 2);
        due("n 201", x.kind(0, 201, 0), BAD);
        due("n -1", x.kind(0, -1, 0), BAD);
        due("what 2", x.kind(0, 0, 2), BAD);
        due("what -1", x.kind(0, 0, -1), BAD);
        due("WHEEL 1", x.kind(1, 0, 0), BAD);
        due("WHEEL -1", x.kind(-1, 0, 0), BAD);
    }

    private static void bears() {
        FlyWheels x = told("plain 5 0;drive 0;join 0;load 45;");
        x.alter(0, 3, 99);
        // (99 - LOSS) / 2 goes to the wheel, the rest, 45 at least, to the shaft
        due("bears", x.bears(0, 3), 9);
        x.set(2, 147);
        due("bears", x.bears(0, 3), 6);
        x.set(2, 150);
        due("bears", x.bears(0, 3), 0);
        x.set(2, 151);
        due("bears", x.bears(0, 3), NONE);
        due("in none", x.bears(0, 0), 9);
        x.turn(199);
        due("LACK of before does not count", x.bears(0, 2), 9);
        due("n 201", x.bears(0, 201), BAD);
        due("n -1", x.bears(0, -1), BAD);
        due("WHEEL 1", x.bears(1, 0), BAD);
        due("WHEEL -1", x.bears(-1, 0), BAD);
        due("nothing is changed", x.wheel(0, 2), 0);
    }

    private static void swap() {
        FlyWheels x = told("load 50;drive 1;drive 40;load 20;");
        // 0 and 2: 40 is done by 50, then 1 more; 0 and 1: 1 and 20
        due("swap", x.swap(4, 0), 2);
        due("swap", x.swap(4, 1), 41);
        due("none is more", x.swap(1, 0), NONE);
        due("n 0", x.swap(0, 0), NONE);
        due("n 0", x.swap(0, 1), NONE);
        FlyWheels y = told("drive 10;drive 10;load 20;");
        due("none is more", y.swap(3, 0), NONE);
        due("none is more", y.swap(3, 1), NONE);
        FlyWheels z = told("load 7;drive 7;load 7;drive 7;");
        // as it is 7; 0 with 1: 7; 0 with 3: 14
        due("swap", z.swap(4, 0), 3);
        due("how much", z.swap(4, 1), 14);
        due("nothing is changed", z.act(0), 107);
        FlyWheels several = told("load 7;drive 7;drive 7;");
        due("of several the least", several.swap(3, 0), 1);
        due("how much", several.swap(3, 1), 7);
        due("n 201", x.swap(201, 0), BAD);
        due("n -1", x.swap(-1, 0), BAD);
        due("what 2", x.swap(0, 2), BAD);
        due("what -1", x.swap(0, -1), BAD);
        FlyWheels far = told("load 0;load 0;load 0;load 0;load 0;load 0;load 0;load 0;load 0;load 0;load 0;load 9;drive 9;");
        // from tick 0: the drive must come ahead of the load
        due("100 times the lesser", far.swap(13, 0), 12);
        far.ticks(1);
        due("100 times the lesser", far.swap(12, 0), 112);
    }

    private static void omit() {
        FlyWheels x = told("plain 5 2;drive 90;join 0;load 90;");
        due("omit", x.omit(3, 0), 1);
        due("omit", x.omit(3, 1), 90);
        due("omit nothing", x.omit(2, 0), NONE);
        due("omit nothing", x.omit(2, 1), NONE);
        due("n 0", x.omit(0, 0), NONE);
        FlyWheels y = told("plain 5 0;drive 90;join 0;join 0;load 90;");
        due("one of two alike is no better", y.omit(4, 0), NONE);
        // The losses go on in the ticks of the act that is not done.
        FlyWheels z = told("plain 5 9;join 0;drive 90;join 0;load 90;");
        z.alter(0, 3, 40);
        // as it is: 20, 11; 110, 2..: (11 + 110) / 2 = 60, 61 left; omit 0: 40 - 18 = 22, (22 + 90) / 2 = 56 left;
        // omit 2: 20 and 90, all of 90 is done
        due("omit", z.omit(4, 0), 2);
        due("omit", z.omit(4, 1), 90);
        due("nothing is changed", z.act(2), 200);
        due("n 201", x.omit(201, 0), BAD);
        due("n -1", x.omit(-1, 0), BAD);
        due("what 2", x.omit(0, 2), BAD);
        due("what -1", x.omit(0, -1), BAD);
        FlyWheels first = told("plain 5 0;plain 5 0;drive 90;join 0;join 1;load 90;");
        // either: 90 - 45
        due("of several the first", first.omit(4, 0), 1);
        due("how much", first.omit(4, 1), 45);
    }

    private static void off() {
        FlyWheels x = told("plain 5 2;plain 10 2;drive 90;join 0;join 1;load 90;");
        // as it is 45, then 45 - 30 = 15; off 0: 90 - 60; off 1: 45
        due("off", x.off(4, 0), 1);
        due("off", x.off(4, 1), 45);
        due("off none", x.off(3, 0), NONE);
        due("off none", x.off(3, 1), NONE);
        due("n 0", x.off(0, 0), NONE);
        x.alter(1, 1, 5);
        due("of several the first", x.off(4, 0), 0);
        FlyWheels y = told("plain 5 0;drive 90;join 0;join 0;load 90;");
        due("all its joins", y.off(4, 0), 0);
        due("all its joins", y.off(4, 1), 90);
        due("nothing is changed", y.rule(0), 1);
        due("n 201", x.off(201, 0), BAD);
        due("n -1", x.off(-1, 0), BAD);
        due("what 2", x.off(0, 2), BAD);
        due("what -1", x.off(0, -1), BAD);
        due("without WHEELS", new FlyWheels().off(9, 0), NONE);
        FlyWheels ahead = told("plain 5 0;join 0;load 90;");
        ahead.turn(90);
        due("the first ACT joins it", ahead.off(2, 0), 0);
        due("the first ACT joins it", ahead.omit(2, 0), 0);
    }

    private static void luck() {
        FlyWheels x = told("drive 10;load 10;");
        due("luck", x.luck(3, 2, 0), 7);
        due("luck", x.luck(3, 2, 1), 10);
        due("luck", x.luck(3, 4, 0), 49);
        due("luck", x.luck(3, 4, 1), 100);
        due("in lowest terms", x.luck(5, 6, 0), 1);
        due("in lowest terms", x.luck(5, 6, 1), 8);
        due("never", x.luck(10, 2, 0), 0);
        due("never", x.luck(10, 2, 1), 1);
        due("ever", x.luck(0, 8, 0), 1);
        due("ever", x.luck(0, 8, 1), 1);
        due("in none", x.luck(10, 0, 0), 1);
        due("a drive alone", x.luck(10, 1, 0), 1);
        x.turn(10);
        // 10 at hand: one of two drives may fail: 1 - 9/100
        due("luck", x.luck(3, 4, 0), 91);
        x.turn(199);
        due("LACK of before does not count", x.luck(3, 2, 0), 7);
        FlyWheels y = told("drive 1;drive 2;drive 4;drive 8;drive 16;drive 32;drive 64;load 99;");
        // 99 of 127: 64 and 32 and (4 or 8 or 16 or (1 and 2)): .81 * (1 - .001 * .19)
        due("all eight", y.luck(1, 8, 0), 8098461);
        due("all eight", y.luck(1, 8, 1), 10000000);
        due("v 11", x.luck(11, 0, 0), BAD);
        due("v -1", x.luck(-1, 0, 0), BAD);
        due("n 9", x.luck(0, 9, 0), BAD);
        due("n -1", x.luck(0, -1, 0), BAD);
        due("what 2", x.luck(0, 0, 2), BAD);
        due("what -1", x.luck(0, 0, -1), BAD);
        due("nothing is changed", x.rule(2), 0);
    }

    private static void mean() {
        FlyWheels x = told("drive 10;load 10;");
        due("mean", x.mean(3, 2, 0), 7);
        due("mean", x.mean(3, 2, 1), 1);
        due("mean", x.mean(3, 4, 0), 14);
        x.set(0, 7);
        due("mean", x.mean(3, 2, 0), 49);
        due("mean", x.mean(3, 2, 1), 10);
        due("never", x.mean(10, 8, 0), 0);
        due("never", x.mean(10, 8, 1), 1);
        due("in none", x.mean(5, 0, 0), 0);
        due("in none", x.mean(5, 0, 1), 1);
        due("ever", x.mean(0, 8, 0), 28);
        x.turn(4);
        // 4 at hand: .7 * 10 + .3 * 4
        due("mean", x.mean(3, 2, 0), 41);
        due("mean", x.mean(3, 2, 1), 5);
        due("v 11", x.mean(11, 0, 0), BAD);
        due("v -1", x.mean(-1, 0, 0), BAD);
        due("n 9", x.mean(0, 9, 0), BAD);
        due("n -1", x.mean(0, -1, 0), BAD);
        due("what 2", x.mean(0, 0, 2), BAD);
        due("what -1", x.mean(0, 0, -1), BAD);
        due("nothing is changed", x.rule(3), 0);
    }

    private static void see() {
        FlyWheels x = told("plain 5 1;slip 5 1;");
        due("see", x.see(40, 1, 9999999), 1);
        due("see", x.see(0, 0, 0), 2);
        due("n 41", x.see(41, 0, 0), BAD);
        due("n -1", x.see(-1, 0, 0), BAD);
        due("WHEEL 2", x.see(0, 2, 0), BAD);
        due("WHEEL -1", x.see(0, -1, 0), BAD);
        due("v -1", x.see(0, 0, -1), BAD);
        due("v 10000000", x.see(0, 0, 10000000), BAD);
        for (int i = 3; i <= 6; i++) {
            due("see", x.see(0, 0, 0), i);
        }
        due("the 7th", x.see(0, 0, 0), FULL);
        due("BAD ahead of FULL", x.see(0, 0, -1), BAD);
        due("count(0)", x.count(0), 6);
    }

    private static void forget() {
        FlyWheels x = told("plain 5 1;");
        x.see(0, 0, 0);
        x.see(0, 0, 1);
        due("seen is not so", x.kinds(0), 0);
        due("forget(3)", x.forget(3), BAD);
        due("forget(-1)", x.forget(-1), BAD);
        due("forget(2)", x.forget(2), 2);
        due("forget(1)", x.forget(1), 2);
        due("the first is left", x.kinds(0), 15);
        due("forget(0)", x.forget(0), 1);
        due("forget(0)", x.forget(0), 0);
        due("see", x.see(0, 0, 1), 1);
        due("seen is not so", x.kinds(0), 0);
    }

    private static void kinds() {
        FlyWheels x = told("plain 5 0;plain 5 0;drive 90;join 0;");
        due("nothing is seen", x.kinds(0), 15);
        x.see(2, 0, 45);
        due("plain, take", x.kinds(0), 5);
        x.forget(0);
        x.see(2, 0, 22);
        due("slip", x.kinds(0), 2);
        x.see(40, 1, 0);
        due("another WHEEL is as seen", x.kinds(0), 2);
        due("of the other WHEEL", x.kinds(1), 0);
        x.forget(0);
        x.see(2, 0, 20);
        due("soft", x.kinds(0), 8);
        x.ticks(1);
        due("from now on", x.kinds(0), 8);
        x.ticks(1);
        due("from now on", x.kinds(0), 0);
        x.forget(0);
        x.see(0, 1, 0);
        x.cut(1);
        due("a WHEEL that is there no more", x.kinds(0), 0);
        x.put(0, 1, 1);
        due("a WHEEL is there again", x.kinds(0), 15);
        due("WHEEL 2", x.kinds(2), BAD);
        due("WHEEL -1", x.kinds(-1), BAD);
        due("nothing is changed", x.wheel(0, 0), 0);
    }

    private static void losses() {
        FlyWheels x = told("plain 5 4;plain 5 0;");
        due("nothing is seen", x.losses(0), 1023);
        x.alter(0, 3, 20);
        x.see(4, 0, 0);
        due("5 to 9", x.losses(0), 0x3e0);
        x.see(2, 0, 6);
        due("7", x.losses(0), 1 << 7);
        x.forget(0);
        x.see(40, 0, 20);
        due("0", x.losses(0), 1);
        due("of the other WHEEL", x.losses(1), 0);
        x.forget(0);
        x.see(3, 1, 0);
        x.cut(1);
        due("a WHEEL that is there no more", x.losses(0), 0);
        due("WHEEL 1", x.losses(1), BAD);
        due("WHEEL -1", x.losses(-1), BAD);
        due("nothing is changed", x.wheel(0, 2), 4);
    }

    private static void ask() {
        FlyWheels x = told("plain 5 4;plain 5 0;");
        due("nothing tells", x.ask(0, 0), NONE);
        due("nothing tells", x.ask(0, 1), NONE);
        x.alter(0, 3, 20);
        // behind 1: 20 to 11, all apart
        due("ask", x.ask(0, 0), 1);
        due("ask", x.ask(0, 1), 1);
        x.alter(0, 3, 4);
        // behind 1: 4 3 2 1 0 0 0 0 0 0
        due("ask", x.ask(0, 0), 1);
        due("ask", x.ask(0, 1), 6);
        x.see(1, 0, 4);
        due("one is left", x.ask(0, 0), NONE);
        x.see(1, 0, 3);
        due("none is left", x.ask(0, 1), NONE);
        x.forget(0);
        x.see(1, 0, 0);
        due("those left are alike for ever", x.ask(0, 0), NONE);
        x.alter(0, 3, 9);
        x.see(0, 0, 9);
        due("one is left", x.losses(0), 1 << 9);
        due("one is left", x.ask(0, 0), NONE);
        // the shaft swings 21 behind 39: the wheel then swings 1, if it loses nothing
        FlyWheels late = told("shaft 20;plain 1 0;drive 1;join 0;");
        due("too late", late.ask(0, 0), NONE);
        late.turn(1);
        due("behind 40", late.ask(0, 0), 40);
        due("behind 40", late.ask(0, 1), 9);
        due("of the other WHEEL", x.ask(1, 0), NONE);
        due("what 2", x.ask(0, 2), BAD);
        due("what -1", x.ask(0, -1), BAD);
        due("WHEEL 2", x.ask(2, 0), BAD);
        due("WHEEL -1", x.ask(-1, 0), BAD);
        due("nothing is changed", x.wheel(0, 2), 4);
    }

    private static void drift() {
        FlyWheels x = new FlyWheels();
        due("without WHEELS", x.drift(1, 1, 0), STATE);
        due("BAD ahead of STATE", x.drift(1, 0, 0), BAD);
        x.put(0, 5, 3);
        x.alter(0, 3, 50);
        x.turn(50);
        // seed 1: 16838 is got: load 10; then 5758: drive 46; then 10113: load 17
        due("drift", x.drift(1, 1, 0), 10);
        due("drift", x.drift(1, 1, 1), 40 + 47);
        due("drift", x.drift(1, 2, 0), 10);
        due("drift", x.drift(1, 2, 1), 86 + 44);
        due("drift", x.drift(1, 3, 0), 27);
        due("drift", x.drift(1, 3, 1), 69 + 41);
        due("nothing is changed", x.rule(6) * 100 + x.wheel(0, 3) + x.rule(2), 5050);
        due("n 201", x.drift(1, 201, 0), BAD);
        due("n 0", x.drift(1, 0, 0), BAD);
        due("what 2", x.drift(1, 1, 2), BAD);
        due("what -1", x.drift(1, 1, -1), BAD);
        // (least * odd + 12345): 12345 and the top bit: 0 is got: drive 0
        due("the least seed", x.drift(LEAST, 1, 1), 97);
        x.drift(MOST, 200, 0);
    }

    private static void keepAndBack() {
        FlyWheels x = told("shaft 4;plain 5 3;drive 50;load 99;");
        due("back(0)", x.back(0), STATE);
        due("keep(2)", x.keep(2), BAD);
        due("keep(-1)", x.keep(-1), BAD);
        x.ticks(3);
        x.alter(0, 3, 70);
        due("keep(0)", x.keep(0), 0);
        due("count(1)", x.count(1), 1);
        due("back(1)", x.back(1), STATE);
        x.see(0, 0, 70);
        x.ticks(1);
        x.put(1, 1, 1);
        x.set(0, 9);
        x.add(7);
        x.shaft(20);
        due("keep(1)", x.keep(1), 0);
        due("back(0)", x.back(0), 3);
        int[] want = {1, 2, 3, 50, 49, 4, 50};
        for (int what = 0; what < want.length; what++) {
            due("rule(" + what + ")", x.rule(what), want[what]);
        }
        due("SWINGS", x.wheel(0, 3), 70);
        due("act(0)", x.act(0), 50);
        due("SEEN stays", x.count(0), 1);
        due("back(1)", x.back(1), 4);
        due("act(0)", x.act(0), 9);
        due("WHEELS", x.rule(0), 2);
        due("keep(0) again", x.keep(0), 1);
        x.ticks(1);
        due("back(0)", x.back(0), 4);
        due("back(0) again", x.back(0), 4);
        due("back(2)", x.back(2), BAD);
        due("back(-1)", x.back(-1), BAD);
        due("count(1)", x.count(1), 2);
        x.drop(0);
        x.cut(0);
        x.back(1);
        due("ACTS, all of them", x.act(2), 7);
        due("WHEELS", x.wheel(1, 0), 1);
    }

    private static void sheetAndLay() {
        FlyWheels x = new FlyWheels();
        due("SHEET 4", x.sheet(4, 0, 0), BAD);
        due("SHEET -1", x.sheet(-1, 0, 0), BAD);
        due("lane 3", x.sheet(0, 3, 0), BAD);
        due("lane -1", x.sheet(0, -1, 0), BAD);
        due("n 41", x.sheet(0, 0, 41), BAD);
        due("BAD ahead of SIZE", x.sheet(0, 3, -1), BAD);
        due("n -1", x.sheet(0, 0, -1), -14);
        due("n least", x.sheet(0, 0, LEAST), -14);
        due("nothing was made", x.count(3), NONE);
        due("n 0", x.sheet(0, 0, 0), 1);
        due("no CELL", x.lay(0, 0, 0), -12);
        due("n 40", x.sheet(0, 0, 40), 1);
        due("lay", x.lay(0, 39, 256 + 7), 1);
        due("lay", x.lay(0, 40, 0), -12);
        due("lay", x.lay(0, -1, 0), -12);
        due("lay", x.lay(0, LEAST, 0), -12);
        due("lay", x.lay(1, 0, 0), -11);
        due("lay", x.lay(4, 0, 0), BAD);
        due("lay", x.lay(-1, 0, 0), BAD);
        due("lowest 8 bits", x.read(0, 0, 39, 1), 1);
        due("lowest 8 bits", x.act(0), 7);
        x.lay(0, 39, 200);
        due("a BYTE has a sign", x.read(0, 0, 39, 1), -20);
        due("n -1 leaves what there was", x.sheet(0, 0, -1) + x.count(3), -14 + 40);
        x.lay(0, 0, 1);
        due("a new row", x.sheet(0, 0, 40), 1);
        due("CELLS 0", x.read(0, 0, 39, 1), 1);
        due("CELLS 0", x.act(1), 0);
        due("CELLS 0", x.read(0, 0, 0, 1), 1);
        due("CELLS 0", x.act(2), 0);
        x.drop(2);
        x.sheet(3, 1, 2);
        x.lay(3, 1, 65536 + 203);
        x.lay(3, 0, 40000);
        due("lowest 16 bits", x.read(3, 1, 1, 1), 1);
        due("lowest 16 bits", x.act(2), 203);
        due("a SHORT has a sign", x.read(3, 1, 0, 1), -20);
        x.sheet(2, 2, 1);
        x.lay(2, 0, 65536 + 203);
        due("an INT is whole", x.read(2, 2, 0, 1), -20);
        x.lay(2, 0, 203);
        due("an INT is whole", x.read(2, 2, 0, 1), 1);
    }

    private static void readAndTorn() {
        FlyWheels x = new FlyWheels();
        x.sheet(1, 2, 5);
        int[] cells = {5, 105, 203, 204, 9};
        for (int i = 0; i < 5; i++) {
            x.lay(1, i, cells[i]);
        }
        due("SHEET 4", x.read(4, 0, 0, 0), BAD);
        due("SHEET -1", x.read(-1, 0, 0, 0), BAD);
        due("lane 3", x.read(1, 3, 0, 0), BAD);
        due("lane -1", x.read(1, -1, 0, 0), BAD);
        due("n 41", x.read(1, 2, 0, 41), BAD);
        due("n -1", x.read(1, 2, 0, -1), BAD);
        due("NULL", x.read(0, 2, 0, 1), 0);
        due("torn", x.torn(), 1);
        due("BAD leaves torn()", x.read(1, 2, 0, 41) + x.torn(), BAD + 1);
        due("CAST", x.read(1, 1, 0, 1), 0);
        due("torn", x.torn(), 3);
        due("CAST ahead of INDEX", x.read(1, 0, 99, 1), 0);
        due("torn", x.torn(), 3);
        due("all well", x.read(1, 2, 0, 3), 3);
        due("torn", x.torn(), 0);
        due("act(2)", x.act(2), 203);
        due("INDEX behind one", x.read(1, 2, 4, 3), 1);
        due("torn", x.torn(), 2);
        due("it came", x.act(3), 9);
        due("refused by add()", x.read(1, 2, 1, 9), -22);
        due("none came", x.rule(1), 4);
        due("torn() is of one that came to an end", x.torn(), 2);
        due("none to read", x.read(1, 2, 0, 0), 0);
        due("torn", x.torn(), 0);
        due("f -1", x.read(1, 2, -1, 3), 0);
        due("torn", x.torn(), 2);
        x.read(1, 2, 0, 0);
        due("f 5", x.read(1, 2, 5, 3), 0);
        due("torn", x.torn(), 2);
        due("f most", x.read(1, 2, MOST, 40), 0);
        due("f least", x.read(1, 2, LEAST, 40), 0);
        due("ACTS", x.rule(1), 4);
        x.sheet(0, 0, 40);
        due("to 14", x.read(0, 0, 0, 10), 10);
        due("the 17th is refused", x.read(0, 0, 0, 40), -22);
        due("ACTS", x.rule(1), 14);
        due("to 16", x.read(0, 0, 38, 2), 2);
        due("INDEX ahead of FULL", x.read(0, 0, 40, 1), 0);
        due("FULL", x.read(0, 0, 39, 1), -20);
    }

    private static void count() {
        FlyWheels x = told("plain 20 9;slip 3 4;take 1 0;");
        x.see(0, 0, 0);
        x.keep(1);
        feedAll(x, "abc");
        x.sheet(0, 1, 6);
        x.sheet(1, 1, 9);
        int[] want = {1, 1, 3, 6, 24, 13};
        for (int what = 0; what < 6; what++) {
            due("count(" + what + ")", x.count(what), want[what]);
        }
        due("count(6)", x.count(6), BAD);
        due("count(-1)", x.count(-1), BAD);
        x.cut(1);
        due("MASSES", x.count(4), 20);
        due("LOSSES", x.count(5), 9);
        x.keep(0);
        due("IMAGES", x.count(1), 2);
        x.sheet(0, 0, 0);
        due("no CELLS", x.count(3), 0);
    }

    private static void tellingPromises() {
        promise = 1;
        newObject();
        promise = 2;
        feed();
        promise = 3;
        end();
        promise = 4;
        text();
        textTellsAll();
        promise = 5;
        fault();
        promise = 6;
        rule();
        promise = 7;
        wheel();
        promise = 8;
        act();
    }

    private static void changingPromises() {
        promise = 9;
        alter();
        promise = 10;
        shaft();
        promise = 11;
        put();
        promise = 12;
        cut();
        promise = 13;
        set();
        promise = 14;
        add();
        promise = 15;
        drop();
        promise = 16;
        turn();
    }

    private static void runningPromises() {
        promise = 17;
        ticks();
        promise = 18;
        runs();
        promise = 19;
        ahead();
        promise = 20;
        when();
        promise = 21;
        again();
        promise = 22;
        mass();
        promise = 23;
        kind();
        promise = 24;
        bears();
        promise = 25;
        swap();
        promise = 26;
        omit();
        promise = 27;
        off();
    }

    private static void otherPromises() {
        promise = 28;
        luck();
        promise = 29;
        mean();
        promise = 30;
        see();
        promise = 31;
        forget();
        promise = 32;
        kinds();
        promise = 33;
        losses();
        promise = 34;
        ask();
        promise = 35;
        drift();
        promise = 36; // and 37
        keepAndBack();
        promise = 38; // and 39
        sheetAndLay();
        promise = 40; // and 41
        readAndTorn();
        promise = 42;
        count();
    }

    public static void main(String[] args) {
        tellingPromises();
        changingPromises();
        runningPromises();
        otherPromises();
        System.out.println(wrong == 0 ? "the promises hold" : wrong + " answers are not as due");
        if (wrong != 0) {
            System.exit(1);
        }
    }
}
