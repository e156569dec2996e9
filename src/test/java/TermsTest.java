/** Each sentence of the document's section 'Terms' that names a bound, an empty or a full case. */
public final class TermsTest {
    private static final int BAD = Check.BAD, STATE = Check.STATE, FULL = Check.FULL, NONE = Check.NONE;
    private static final String FOUR_WHEELS = "plain 1 1;slip 1 1;take 1 1;soft 1 1;";
    private static final String SIXTEEN_ACTS = "load 1;".repeat(16);

    private static void sentence(String words) {
        Check.sentence(Check.TERMS, words);
    }

    private static void due(String call, long got, long want) {
        Check.due(call, got, want);
    }

    private static void takenText(String text, int lines) {
        FlyWheels x = Check.told("slip 3 4;shaft 7;load 9;");
        due("text of '" + text + "'", Check.tell(x, text), lines);
        due("fault of '" + text + "'", x.fault(), 0);
    }

    private static void refusedText(String text, int place, int fault) {
        FlyWheels x = Check.told("slip 3 4;shaft 7;load 9;");
        due("text of '" + text + "'", Check.tell(x, text), -10 - place);
        due("fault of '" + text + "'", x.fault(), fault);
        due("WHEELS behind '" + text + "'", x.rule(0), 1);
        due("ACTS behind '" + text + "'", x.rule(1), 1);
        due("MASS behind '" + text + "'", x.rule(5), 7);
    }

    /** A shaft of mass 5 and one wheel of mass 5, each swinging so much. */
    private static FlyWheels pair(int kind, int wheelSwings, int shaftSwings) {
        FlyWheels x = new FlyWheels();
        x.put(kind, 5, 0);
        x.alter(0, 3, wheelSwings);
        x.turn(shaftSwings);
        return x;
    }

    private static void joins(int kind, int wheelSwings, int shaftSwings, int becomes) {
        FlyWheels x = pair(kind, wheelSwings, shaftSwings);
        String what = "kind " + kind + " with " + wheelSwings + " at a shaft with " + shaftSwings;
        due(what + " would swing", x.wheel(0, 5), becomes);
        due(what + " leaves", x.turn(200), wheelSwings + shaftSwings - becomes);
        due(what + " swings", x.wheel(0, 3), becomes);
        due(what + ": the shaft swings", x.rule(6), wheelSwings + shaftSwings - becomes);
    }

    // ---- answers

    private static void answers() {
        sentence("Answers: BAD -1 (a number is not as told, there is no such WHEEL, ACT, IMAGE, SHEET), "
            + "STATE -2 (as told), FULL -3, NONE -4 (there is none), the first that fits");
        due("BAD", FlyWheels.BAD, -1);
        due("STATE", FlyWheels.STATE, -2);
        due("FULL", FlyWheels.FULL, -3);
        due("NONE", FlyWheels.NONE, -4);
        FlyWheels none = new FlyWheels();
        due("no such WHEEL", none.wheel(0, 0), BAD);
        due("no such ACT", none.act(0), BAD);
        due("no such IMAGE", none.back(2), BAD);
        due("no such IMAGE, but there may be", none.back(1), STATE);
        due("no such SHEET", none.lay(4, 0, 0), BAD);
        badAheadOfState(none);
        badAheadOfFull();
        badAheadOfNone();
    }

    private static void badAheadOfState(FlyWheels none) {
        due("turn(204) without WHEELS", none.turn(204), BAD);
        due("turn(203) without WHEELS", none.turn(203), STATE);
        due("drift of 0 without WHEELS", none.drift(1, 0, 0), BAD);
        due("drift of 201 without WHEELS", none.drift(1, 201, 0), BAD);
        due("drift, what 2, without WHEELS", none.drift(1, 1, 2), BAD);
        due("drift of 1 without WHEELS", none.drift(1, 1, 0), STATE);
        due("back(-1) without IMAGES", none.back(-1), BAD);
        due("back(0) without IMAGES", none.back(0), STATE);
        due("SHEET 4 of SIZE -1", none.sheet(4, 0, -1), BAD);
        due("SHEET of lane 3 of SIZE -1", none.sheet(0, 3, -1), BAD);
        due("SHEET of SIZE -1", none.sheet(0, 2, -1), -14);
        due("read of 41 of nothing", none.read(0, 0, 0, 41), BAD);
        due("read of lane 3 of nothing", none.read(0, 3, 0, 1), BAD);
        due("read of 40 of nothing", none.read(0, 0, 0, 40), 0);
    }

    private static void badAheadOfFull() {
        FlyWheels x = Check.told(FOUR_WHEELS + SIXTEEN_ACTS.substring(0, 7 * 16));
        due("a 5th WHEEL, KIND 4", x.put(4, 1, 1), BAD);
        due("a 5th WHEEL, MASS 0", x.put(0, 0, 1), BAD);
        due("a 5th WHEEL, LOSS 10", x.put(0, 1, 10), BAD);
        due("a 5th WHEEL", x.put(0, 1, 1), FULL);
        due("a 17th ACT, 204", x.add(204), BAD);
        due("a 17th ACT, -1", x.add(-1), BAD);
        due("a 17th ACT", x.add(203), FULL);
        for (int i = 0; i < 6; i++) {
            x.see(0, 0, 0);
        }
        due("a 7th SEEN behind 41", x.see(41, 0, 0), BAD);
        due("a 7th SEEN of WHEEL 4", x.see(0, 4, 0), BAD);
        due("a 7th SEEN of 10000000", x.see(0, 0, 10000000), BAD);
        due("a 7th SEEN", x.see(0, 0, 0), FULL);
        Check.feedAll(x, " ".repeat(160));
        due("a 161st byte, 128", x.feed(128), BAD);
        due("a 161st byte", x.feed(127), FULL);
        for (int i = 0; i < 99; i++) {
            x.ticks(100);
        }
        due("ticks(101) beyond the last TICK", x.ticks(101), BAD);
        due("ticks(-1) beyond the last TICK", x.ticks(-1), BAD);
        due("ticks(100) beyond the last TICK", x.ticks(100), FULL);
    }

    private static void badAheadOfNone() {
        FlyWheels x = Check.told("plain 5 0;load 1;");
        due("swap of 201", x.swap(201, 0), BAD);
        due("swap, what 2", x.swap(1, 2), BAD);
        due("swap", x.swap(1, 1), NONE);
        due("omit of 201", x.omit(201, 0), BAD);
        due("omit", x.omit(1, 1), NONE);
        due("off of 201", x.off(201, 0), BAD);
        due("off", x.off(1, 1), NONE);
        due("bears of 201", x.bears(0, 201), BAD);
        due("bears", x.bears(0, 1), NONE);
        due("ask, what 2", x.ask(0, 2), BAD);
        due("ask", x.ask(0, 1), NONE);
        due("when of WHEEL 1", x.when(1), BAD);
        x.alter(0, 3, 1);
        due("when", x.when(0), NONE);
        due("again", x.again(), 1);
        due("rule(9) without ACTS", new FlyWheels().rule(9), BAD);
        due("rule(8) without ACTS", new FlyWheels().rule(8), NONE);
        due("count(6) without SHEETS", x.count(6), BAD);
        due("count(3) without SHEETS", x.count(3), NONE);
    }

    private static void refusals() {
        sentence("what is refused changes nothing (but THE TAPE, as told)");
        FlyWheels x = Check.told("shaft 3;slip 4 5;drive 6;");
        x.keep(0);
        x.see(1, 0, 2);
        due("a text with a FAULT", Check.tell(x, "shaft 9;plain 8 8;load 8;join 9;"), -10 - 30);
        due("THE TAPE is empty", x.count(2), 0);
        due("MASS", x.rule(5), 3);
        due("KIND", x.wheel(0, 0), 1);
        due("ACT", x.act(0), 6);
        due("ACTS", x.rule(1), 1);
        due("SEEN", x.count(0), 1);
        due("IMAGES", x.count(1), 1);
        x.feed('a');
        due("a byte that is none", x.feed(200), BAD);
        due("too many bytes kept", x.end(2), BAD);
        due("THE TAPE", x.count(2), 1);
    }

    private static void fractions() {
        sentence("Fractions are in lowest terms, the denominator above 0 (0 is 0 by 1).");
        FlyWheels x = Check.told("drive 10;load 10;");
        due("1 by 8", x.luck(5, 6, 0), 1);
        due("1 by 8", x.luck(5, 6, 1), 8);
        due("4 by 5", x.luck(2, 2, 0), 4);
        due("4 by 5", x.luck(2, 2, 1), 5);
        due("1 by 1", x.luck(0, 8, 0), 1);
        due("1 by 1", x.luck(0, 8, 1), 1);
        due("0 by 1", x.luck(10, 8, 0), 0);
        due("0 by 1", x.luck(10, 8, 1), 1);
        due("mean 0 by 1", x.mean(10, 8, 0), 0);
        due("mean 0 by 1", x.mean(10, 8, 1), 1);
        due("mean 40 by 1", x.mean(0, 8, 0), 40);
        due("mean 40 by 1", x.mean(0, 8, 1), 1);
        x.set(0, 7);
        for (int v = 0; v <= 10; v++) {
            for (int n = 0; n <= 8; n++) {
                lowest("luck", x.luck(v, n, 0), x.luck(v, n, 1));
                lowest("mean", x.mean(v, n, 0), x.mean(v, n, 1));
            }
        }
    }

    private static void lowest(String call, long above, long below) {
        due(call + ": the denominator is above 0", below > 0 ? 1 : 0, 1);
        long a = above;
        long b = below;
        while (b != 0) {
            long rest = a % b;
            a = b;
            b = rest;
        }
        due(call + ": lowest terms of " + above + " by " + below, a, 1);
    }

    // ---- 1: what there is

    private static void theShaft() {
        sentence("THE SHAFT has a MASS (1 to 20; 5 at first), SWINGS so much (0 at first).");
        due("MASS at first", new FlyWheels().rule(5), 5);
        due("SWINGS at first", new FlyWheels().rule(6), 0);
        due("MASS at first, as told", Check.told("plain 1 1;").rule(5), 5);
        Check.taken("shaft", v -> new FlyWheels().shaft(v), 1, 5, 20, 5);
        takenText("shaft 1;", 1);
        takenText("shaft 20;", 1);
        refusedText("shaft 0;", 6, 3);
        refusedText("shaft 21;", 6, 3);
        due("MASS 1, as told", Check.told("shaft 1;").rule(5), 1);
        due("MASS 20, as told", Check.told("shaft 20;").rule(5), 20);
    }

    private static void theWheels() {
        sentence("WHEELS 0 on (4 at most), by order, each of a KIND (0 plain, 1 slip, 2 take, 3 soft), "
            + "with a MASS (1 to 20), a LOSS (0 to 9), SWINGS so much (0 at first).");
        FlyWheels x = new FlyWheels();
        for (int w = 0; w < 4; w++) {
            due("a WHEEL more", x.put(3 - w, 17 + w, 6 + w), w + 1);
            due("SWINGS at first", x.wheel(w, 3), 0);
        }
        due("a 5th", x.put(0, 1, 0), FULL);
        due("WHEELS", x.rule(0), 4);
        for (int w = 0; w < 4; w++) {
            due("by order: KIND of " + w, x.wheel(w, 0), 3 - w);
            due("by order: MASS of " + w, x.wheel(w, 1), 17 + w);
            due("by order: LOSS of " + w, x.wheel(w, 2), 6 + w);
        }
        Check.taken("WHEEL", w -> x.wheel(w, 0), 0, 3, 3, 0);
        Check.taken("KIND", v -> new FlyWheels().put(v, 1, 0), 0, 1, 3, 1);
        Check.taken("MASS", v -> new FlyWheels().put(0, v, 0), 1, 1, 20, 1);
        Check.taken("LOSS", v -> new FlyWheels().put(0, 1, v), 0, 1, 9, 1);
        String[] kinds = {"plain", "slip", "take", "soft"};
        for (int k = 0; k < 4; k++) {
            due("KIND by its NAME", Check.told(kinds[k] + " 1 1;").wheel(0, 0), k);
            due("SWINGS at first", Check.told(kinds[k] + " 1 1;").wheel(0, 3), 0);
        }
    }

    private static void theActs() {
        sentence("ACTS (16 at most), by order: 0 to 99 drive by so much, 100 to 199 load by 100 less, "
            + "200 to 203 join WHEEL 200 less.");
        FlyWheels x = new FlyWheels();
        for (int i = 0; i < 16; i++) {
            due("an ACT more", x.add(200 - i), i + 1);
        }
        due("a 17th", x.add(0), FULL);
        due("ACTS", x.rule(1), 16);
        for (int i = 0; i < 16; i++) {
            due("by order: ACT " + i, x.act(i), 200 - i);
        }
        Check.taken("ACT", v -> new FlyWheels().add(v), 0, 1, 203, 1);
        driveAndLoad();
        joinByNumber();
    }

    private static void driveAndLoad() {
        FlyWheels x = new FlyWheels();
        due("drive 0", x.turn(0), 0);
        due("drive 99", x.turn(99), 99);
        due("load 0", x.turn(100), 99);
        due("nothing LACKS", x.rule(4), 0);
        due("load 1", x.turn(101), 98);
        due("load 99", x.turn(199), 0);
        due("DONE", x.rule(3), 99);
        due("LACK", x.rule(4), 1);
    }

    private static void joinByNumber() {
        for (int joined = 0; joined < 4; joined++) {
            FlyWheels x = Check.told("plain 5 0;plain 5 0;plain 5 0;plain 5 0;");
            x.turn(40);
            due("join " + joined, x.turn(200 + joined), 20);
            for (int w = 0; w < 4; w++) {
                due("join " + joined + ": WHEEL " + w, x.wheel(w, 3), w == joined ? 20 : 0);
            }
        }
    }

    private static void sumsAtFirst() {
        sentence("TICK, DONE, LACK (0 at first).");
        for (int what = 2; what <= 4; what++) {
            due("rule(" + what + ") of a new object", new FlyWheels().rule(what), 0);
            due("rule(" + what + ") of what is told", Check.told(FOUR_WHEELS + "load 1;").rule(what), 0);
        }
    }

    private static void speed() {
        sentence("SPEED: what it SWINGS by its MASS (down).");
        int[][] bySwing = {{0, 0}, {4, 0}, {5, 1}, {9, 1}, {10, 2}, {99, 19}};
        for (int[] row : bySwing) {
            FlyWheels x = pair(0, row[0], row[0]);
            due("SPEED of THE SHAFT with " + row[0], x.rule(7), row[1]);
            due("SPEED of a WHEEL with " + row[0], x.wheel(0, 4), row[1]);
        }
        FlyWheels x = new FlyWheels();
        x.put(0, 20, 0);
        x.alter(0, 3, 9999);
        due("9999 by 20", x.wheel(0, 4), 499);
        x.alter(0, 1, 1);
        due("9999 by 1", x.wheel(0, 4), 9999);
        x.turn(99);
        x.shaft(20);
        due("99 by 20", x.rule(7), 4);
        x.shaft(1);
        due("99 by 1", x.rule(7), 99);
    }

    // ---- how it is joined

    private static void even() {
        sentence("EVEN of a WHEEL: what it and THE SHAFT SWING, summed, times its MASS, by both MASSES summed (down).");
        evenOf(1, 20, 0, 20, 19);
        evenOf(1, 20, 0, 21, 20);
        evenOf(1, 20, 0, 22, 20);
        evenOf(20, 1, 0, 20, 0);
        evenOf(20, 1, 0, 21, 1);
        evenOf(20, 1, 20, 0, 0);
        evenOf(20, 1, 20, 1, 1);
        evenOf(20, 20, 9999, 0, 4999);
        evenOf(20, 20, 9999, 99, 5049);
        evenOf(1, 1, 0, 0, 0);
        evenOf(1, 1, 0, 1, 0);
        evenOf(1, 1, 1, 0, 0);
        evenOf(1, 1, 1, 1, 1);
    }

    private static void evenOf(int shaftMass, int wheelMass, int wheelSwings, int shaftSwings, int even) {
        FlyWheels x = new FlyWheels();
        x.shaft(shaftMass);
        x.put(0, wheelMass, 0);
        x.alter(0, 3, wheelSwings);
        x.turn(shaftSwings);
        String what = "masses " + shaftMass + " and " + wheelMass + ", " + shaftSwings + " and " + wheelSwings;
        due(what, x.wheel(0, 5), even);
        due(what + ": the rest", x.turn(200), wheelSwings + shaftSwings - even);
    }

    private static void byKind() {
        sentence("plain EVEN");
        joins(0, 0, 2, 1);
        joins(0, 0, 3, 1);
        joins(0, 3, 0, 1);
        sentence("slip what it did and half (towards 0) of how much that which a plain one would is more "
            + "(less, if it is less)");
        joins(1, 0, 0, 0);
        joins(1, 0, 2, 0);
        joins(1, 0, 4, 1);
        joins(1, 0, 6, 1);
        joins(1, 0, 8, 2);
        joins(1, 1, 0, 1);
        joins(1, 2, 0, 2);
        joins(1, 3, 0, 2);
        joins(1, 5, 0, 4);
        joins(1, 6, 0, 5);
        joins(1, 7, 0, 5);
        joins(1, 9, 9, 9);
        sentence("take as a plain one, but as much as it did, if that is more");
        joins(2, 10, 8, 10);
        joins(2, 10, 10, 10);
        joins(2, 10, 11, 10);
        joins(2, 10, 12, 11);
        joins(2, 9999, 0, 9999);
        sentence("soft as a take one, but 20 more than it did at most. THE SHAFT has the rest.");
        joins(3, 10, 9, 10);
        joins(3, 10, 12, 11);
        joins(3, 10, 48, 29);
        joins(3, 10, 50, 30);
        joins(3, 10, 52, 30);
        joins(3, 0, 40, 20);
        joins(3, 0, 42, 20);
        joins(3, 9999, 0, 9999);
    }

    // ---- the text

    private static void tape() {
        sentence("THE TAPE has 160 bytes, places from 0.");
        FlyWheels x = new FlyWheels();
        for (int i = 1; i <= 160; i++) {
            due("byte " + i, x.feed(' '), i);
        }
        due("byte 161", x.feed(' '), FULL);
        due("160 blanks", x.text(), 0);
        refusedText("!", 0, 1);
        refusedText(" !", 1, 1);
        refusedText(" ".repeat(159) + "!", 159, 1);
        refusedText(" ".repeat(155) + "drive", 160, 2);
        refusedText("drive" + " ".repeat(155), 160, 2);
        takenText(" ".repeat(152) + "drive 1;", 1);
        takenText("drive 1" + " ".repeat(152) + ";", 1);
    }

    private static void tokens() {
        sentence("TOKENS, each as long as may be, blanks (32) between: NAMES (a .. z), NUMBERS (1 or 2 figures), one ; .");
        for (int c = 0; c < 128; c++) {
            byteAlone(c);
            byteBetween(c);
        }
        takenText("plain12 3;", 1);
        takenText("drive5;load6;join3;", 3);
        takenText("  drive   5  ;  ", 1);
        refusedText("driveload 5;", 0, 2);
        refusedText("drive 1 2;", 8, 2);
        refusedText("drive 5;;", 8, 2);
        takenText("drive 7;", 1);
        takenText("drive 77;", 1);
        refusedText("drive 777;", 6, 1);
        due("MASS and LOSS are two NUMBERS", Check.told("plain12 3;").wheel(0, 1), 12);
    }

    private static boolean isLetter(int c) {
        return 97 <= c && c <= 122;
    }

    private static boolean isFigure(int c) {
        return 48 <= c && c <= 57;
    }

    private static void byteAlone(int c) {
        String text = String.valueOf((char) c);
        if (c == 32) {
            takenText(text, 0);
        } else {
            refusedText(text, 0, isLetter(c) || isFigure(c) || c == 59 ? 2 : 1);
        }
    }

    private static void byteBetween(int c) {
        String text = "drive" + (char) c + "5;";
        if (c == 32) {
            takenText(text, 1);
        } else if (isFigure(c)) {
            due("a NUMBER of 2 figures", Check.told(text).act(0), 10 * (c - 48) + 5);
        } else if (isLetter(c)) {
            refusedText(text, 0, 2);
        } else {
            refusedText(text, 5, c == 59 ? 2 : 1);
        }
    }

    private static void lines() {
        sentence("text: { line } line: K N N ; | shaft N ; | drive N ; | load N ; | join N ; K: plain | slip | take | soft");
        takenText("", 0);
        String[] wheels = {"plain 7 3;", "slip 7 3;", "take 7 3;", "soft 7 3;"};
        for (String line : wheels) {
            takenText(line, 1);
            takenText(line + line, 2);
            prefixes(line);
        }
        String[] others = {"shaft 3;", "drive 3;", "load 3;", "join 3;"};
        for (String line : others) {
            takenText(line, 1);
            prefixes(line);
            refusedText(line.replace(";", " 3;"), line.length(), 2);
        }
        refusedText("plain 7 3 3;", 10, 2);
        refusedText("plain 7;", 7, 2);
        refusedText("plain;", 5, 2);
        refusedText("plain x 3;", 6, 2);
        refusedText("plain 7 x;", 8, 2);
    }

    /** A line that breaks off: a NAME too short begins no line, what lacks behind it is told by the end. */
    private static void prefixes(String line) {
        int name = line.indexOf(' ');
        for (int n = 1; n < line.length(); n++) {
            refusedText(line.substring(0, n), n < name ? 0 : n, 2);
        }
    }

    private static void whatLinesTell() {
        sentence("K: a WHEEL more of that KIND: MASS, LOSS. shaft: its MASS. "
            + "drive, load, join: an ACT more: how much (0 to 99), a WHEEL (0 to 3).");
        FlyWheels x = Check.told("plain 1 0;soft 20 9;");
        due("MASS 1", x.wheel(0, 1), 1);
        due("LOSS 0", x.wheel(0, 2), 0);
        due("MASS 20", x.wheel(1, 1), 20);
        due("LOSS 9", x.wheel(1, 2), 9);
        x = Check.told("drive 0;drive 99;load 0;load 99;join 0;join 3;drive 00;load 09;join 03;");
        int[] acts = {0, 99, 100, 199, 200, 203, 0, 109, 203};
        for (int i = 0; i < acts.length; i++) {
            due("ACT " + i, x.act(i), acts[i]);
        }
        due("ACTS", x.rule(1), acts.length);
    }

    private static void faultOne() {
        sentence("1 no TOKEN, a NUMBER that is too long (its first byte).");
        refusedText("A", 0, 1);
        refusedText("drive\t1;", 5, 1);
        refusedText("drive 1,", 7, 1);
        refusedText("drive 1; -", 9, 1);
        refusedText("drive 100;", 6, 1);
        refusedText("drive 000;", 6, 1);
        refusedText("drive 0000000000000000000000005;", 6, 1);
        refusedText("drive  123", 7, 1);
        refusedText("123", 0, 1);
        refusedText("drive 1 123", 8, 1);
        refusedText("plain 1 001;", 8, 1);
    }

    private static void faultTwo() {
        sentence("2 a TOKEN that can not stand there (a NAME that begins no line; or the end: the length).");
        for (String line : new String[] {"plain 7 3;", "slip 7 3;", "take 7 3;", "soft 7 3;", "shaft 3;", "drive 3;",
            "load 3;", "join 3;"}) {
            nearNames(line);
        }
        refusedText("x", 0, 2);
        refusedText("drive 1; plains 1 1;", 9, 2);
        refusedText("drive 1; plai 1 1;", 9, 2);
        refusedText(";", 0, 2);
        refusedText("12", 0, 2);
        refusedText("drive", 5, 2);
        refusedText("drive  ", 7, 2);
        refusedText("drive 1", 7, 2);
        refusedText("drive 1 ", 8, 2);
        refusedText("plain 1 1 ", 10, 2);
        refusedText("drive load 1;", 6, 2);
        refusedText("drive 1 load 1;", 8, 2);
        refusedText("shaft ;", 6, 2);
    }

    /** One letter of the NAME is another, is gone, or is there twice. */
    private static void nearNames(String line) {
        for (int i = 0; i < line.indexOf(' '); i++) {
            String ahead = line.substring(0, i);
            String behind = line.substring(i + 1);
            refusedText(ahead + "z" + behind, 0, 2);
            refusedText(ahead + (char) (line.charAt(i) + 1) + behind, 0, 2);
            refusedText(ahead + behind, 0, 2);
            refusedText(ahead + line.charAt(i) + line.charAt(i) + behind, 0, 2);
        }
    }

    private static void faultThree() {
        sentence("3 a NUMBER out of its bounds.");
        for (String kind : new String[] {"plain", "slip", "take", "soft"}) {
            int mass = kind.length() + 1;
            takenText(kind + " 1 0;", 1);
            takenText(kind + " 20 9;", 1);
            refusedText(kind + " 0 0;", mass, 3);
            refusedText(kind + " 00 0;", mass, 3);
            refusedText(kind + " 21 0;", mass, 3);
            refusedText(kind + " 99 0;", mass, 3);
            refusedText(kind + " 1 10;", mass + 2, 3);
            refusedText(kind + " 20 99;", mass + 3, 3);
        }
        takenText("shaft 01;", 1);
        refusedText("shaft 00;", 6, 3);
        refusedText("shaft 21;", 6, 3);
        takenText("drive 99;load 99;", 2);
        takenText("join 3;", 1);
        refusedText("join 4;", 5, 3);
        refusedText("join 99;", 5, 3);
    }

    private static void faultFour() {
        sentence("4 shaft for the second time (its NAME).");
        takenText("shaft 1;", 1);
        refusedText("shaft 1;shaft 1;", 8, 4);
        refusedText("shaft 1;drive 1;  shaft 2;", 18, 4);
        refusedText("shaft 1;shaft", 8, 4);
        FlyWheels x = Check.told("shaft 9;");
        due("for the first time in this text", Check.tell(x, "shaft 8;"), 1);
        due("MASS", x.rule(5), 8);
    }

    private static void faultFive() {
        sentence("5 the 5th WHEEL, the 17th ACT (its NAME).");
        takenText(FOUR_WHEELS, 4);
        takenText(SIXTEEN_ACTS, 16);
        takenText(SIXTEEN_ACTS + FOUR_WHEELS + "shaft 1;", 21);
        for (String kind : new String[] {"plain", "slip", "take", "soft"}) {
            refusedText(FOUR_WHEELS + " " + kind + " 1 1;", FOUR_WHEELS.length() + 1, 5);
        }
        for (String act : new String[] {"drive", "load", "join"}) {
            refusedText(SIXTEEN_ACTS + "  " + act + " 1;", SIXTEEN_ACTS.length() + 2, 5);
        }
        takenText("join 1;".repeat(16), 16);
        takenText("drive 1;".repeat(16), 16);
        FlyWheels x = Check.told(FOUR_WHEELS + SIXTEEN_ACTS);
        due("what there was does not count", Check.tell(x, FOUR_WHEELS + SIXTEEN_ACTS), 20);
    }

    private static void theFirstFault() {
        sentence("FAULTS, the first met as it is read (a TOKEN is read when the one before has been taken)");
        refusedText("plain 0 !", 6, 3);
        refusedText("plain 21 123;", 6, 3);
        refusedText("plain 1 10 !", 8, 3);
        refusedText("join 4!", 5, 3);
        refusedText("x !", 0, 2);
        refusedText("; !", 0, 2);
        refusedText("drive 1 drive !", 8, 2);
        refusedText("drive ! 123", 6, 1);
        refusedText("shaft 1;shaft 0;", 8, 4);
        refusedText("shaft 1;shaft !", 8, 4);
        refusedText("shaft 0;shaft 1;", 6, 3);
        refusedText(FOUR_WHEELS + "soft !", FOUR_WHEELS.length(), 5);
        refusedText(FOUR_WHEELS + "soft 0 0;", FOUR_WHEELS.length(), 5);
        refusedText(SIXTEEN_ACTS + "join 4;", SIXTEEN_ACTS.length(), 5);
        refusedText(SIXTEEN_ACTS + "join", SIXTEEN_ACTS.length(), 5);
        refusedText(SIXTEEN_ACTS + "joi", SIXTEEN_ACTS.length(), 2);
    }

    private static void tellsAll() {
        sentence("A text that is taken tells all, in place of what there was; nothing is SEEN; IMAGES are gone.");
        for (String text : new String[] {"", "take 4 2;load 8;"}) {
            FlyWheels x = Check.told("shaft 3;soft 2 1;drive 50;load 99;");
            x.ticks(3);
            x.keep(0);
            x.keep(1);
            x.see(0, 0, 0);
            int one = text.isEmpty() ? 0 : 1;
            due("text", Check.tell(x, text), 2 * one);
            due("WHEELS", x.rule(0), one);
            due("ACTS", x.rule(1), one);
            for (int what = 2; what <= 4; what++) {
                due("rule(" + what + ")", x.rule(what), 0);
            }
            due("MASS", x.rule(5), 5);
            due("SWINGS", x.rule(6), 0);
            due("SEEN", x.count(0), 0);
            due("IMAGES", x.count(1), 0);
            due("back(0)", x.back(0), STATE);
            due("back(1)", x.back(1), STATE);
            due("keep(0)", x.keep(0), 0);
        }
    }

    // ---- 2: acts, ticks

    private static void driving() {
        sentence("An ACT: drive: THE SHAFT SWINGS so much more.");
        FlyWheels x = new FlyWheels();
        due("drive 0", x.turn(0), 0);
        due("drive 1", x.turn(1), 1);
        due("drive 99", x.turn(99), 100);
        due("DONE", x.rule(3), 0);
        due("LACK", x.rule(4), 0);
    }

    private static void loading() {
        sentence("load: it SWINGS so much less, or 0, if it does not SWING as much; "
            + "DONE is more by what it gave, LACK by what was wanting.");
        int[][] rows = {{0, 0, 0, 0, 0}, {0, 1, 0, 0, 1}, {30, 29, 1, 29, 0}, {30, 30, 0, 30, 0}, {30, 31, 0, 30, 1},
            {99, 99, 0, 99, 0}, {98, 99, 0, 98, 1}, {0, 99, 0, 0, 99}};
        for (int[] row : rows) {
            FlyWheels x = new FlyWheels();
            x.turn(row[0]);
            String what = "load " + row[1] + " of " + row[0];
            due(what, x.turn(100 + row[1]), row[2]);
            due(what + ": DONE", x.rule(3), row[3]);
            due(what + ": LACK", x.rule(4), row[4]);
        }
    }

    private static void joiningNone() {
        sentence("join: that WHEEL is JOINED (nothing happens, if there is none).");
        FlyWheels x = Check.told("plain 5 2;plain 5 3;plain 5 0;join 3;join 2;");
        x.turn(40);
        x.alter(0, 3, 9);
        x.alter(1, 3, 9);
        due("a TICK", x.ticks(1), 0);
        due("THE SHAFT", x.rule(6), 40);
        due("LOSS all the same", x.wheel(0, 3), 7);
        due("LOSS all the same", x.wheel(1, 3), 6);
        due("TICK", x.rule(2), 1);
        x.ticks(1);
        due("the last that there is", x.wheel(2, 3), 20);
        FlyWheels none = Check.told("join 0;");
        none.turn(40);
        due("no WHEELS", none.ticks(100), 0);
        due("THE SHAFT", none.rule(6), 40);
    }

    private static void theActOfATick() {
        sentence("A TICK, in this order: the ACT whose number TICK leaves by ACTS (none, if there are none).");
        FlyWheels x = new FlyWheels();
        for (int i = 0; i < 16; i++) {
            x.add(i);
        }
        for (int tick = 0; tick < 33; tick++) {
            due("ACT of TICK " + tick, x.rule(8), tick % 16);
            x.ticks(1);
        }
        due("THE SHAFT", x.rule(6), 2 * 120);
        x.drop(1);
        x.set(0, 7);
        x.ticks(3);
        due("one ACT", x.rule(6), 240 + 21);
        x.drop(0);
        due("no ACTS", x.ticks(2), 0);
        due("THE SHAFT", x.rule(6), 240 + 21);
        due("TICK", x.rule(2), 38);
        x.add(1);
        x.add(2);
        due("TICK 38 by 2 ACTS", x.rule(8), 1);
        x.ticks(1);
        due("TICK 39 by 2 ACTS", x.rule(8), 2);
    }

    private static void losing() {
        sentence("Then each WHEEL SWINGS less by its LOSS (0 at least). TICK is 1 more.");
        FlyWheels x = Check.told("plain 1 9;slip 1 9;take 1 9;soft 1 0;");
        x.alter(0, 3, 8);
        x.alter(1, 3, 9);
        x.alter(2, 3, 10);
        x.alter(3, 3, 1);
        x.ticks(1);
        int[] left = {0, 0, 1, 1};
        for (int w = 0; w < 4; w++) {
            due("WHEEL " + w, x.wheel(w, 3), left[w]);
        }
        due("TICK", x.rule(2), 1);
        x.ticks(1);
        due("WHEEL 0", x.wheel(0, 3), 0);
        due("WHEEL 2", x.wheel(2, 3), 0);
        FlyWheels order = Check.told("plain 5 9;join 0;");
        order.turn(20);
        order.ticks(1);
        due("the ACT ahead of the LOSS", order.wheel(0, 3), 1);
        due("THE SHAFT", order.rule(6), 10);
    }

    private static void byTicks() {
        sentence("BY TICKS: as it would be from now on.");
        FlyWheels x = Check.told("plain 5 1;drive 8;join 0;load 3;");
        x.ticks(1);
        due("DONE from now on", x.runs(3, 0), 3);
        due("SWINGS from now on", x.ahead(0, 1), 3);
        due("nothing is changed", x.rule(2), 1);
        due("nothing is changed", x.rule(6), 8);
        due("nothing is changed", x.rule(3), 0);
        x.keep(0);
        for (int i = 0; i < 99; i++) {
            x.ticks(100);
        }
        x.ticks(98);
        due("the last TICK", x.rule(2), 9999);
        due("beyond the last TICK", x.runs(3, 0), 3);
        due("nothing is changed", x.rule(2), 9999);
    }

    // ---- seen, sheets

    private static void seen() {
        sentence("SEEN (6): behind n TICKS (0 to 40) from now on a WHEEL SWINGS so much.");
        FlyWheels x = Check.told("plain 5 1;");
        for (int i = 1; i <= 6; i++) {
            due("SEEN", x.see(0, 0, 0), i);
        }
        due("a 7th", x.see(0, 0, 0), FULL);
        Check.taken("see behind n", n -> Check.told("plain 5 1;").see(n, 0, 0), 0, 1, 40, 1);
        FlyWheels y = Check.told("plain 5 1;");
        y.alter(0, 3, 41);
        y.see(0, 0, 41);
        y.see(40, 0, 1);
        due("behind 0 and 40", y.losses(0), 2);
        y.ticks(1);
        due("from now on", y.losses(0), 0);
        y.alter(0, 3, 41);
        due("from now on", y.losses(0), 2);
    }

    private static void sheets() {
        sentence("SHEETS 0 to 3 are rows of BYTES (lane 0), SHORTS (1), INTS (2) with 0 to 40 CELLS, "
            + "or nothing (at first).");
        for (int k = 0; k < 4; k++) {
            due("nothing at first", new FlyWheels().lay(k, 0, 0), -11);
        }
        Check.taken("SHEET", k -> new FlyWheels().sheet(k, 0, 1), 0, 1, 3, 1);
        Check.taken("lane", lane -> new FlyWheels().sheet(0, lane, 1), 0, 1, 2, 1);
        for (int lane = 0; lane < 3; lane++) {
            FlyWheels x = new FlyWheels();
            due("no CELLS", x.sheet(0, lane, 0), 1);
            due("CELLS", x.count(3), 0);
            due("no CELL 0", x.lay(0, 0, 0), -12);
            due("40 CELLS", x.sheet(0, lane, 40), 1);
            due("CELLS", x.count(3), 40);
            due("CELL 39", x.lay(0, 39, 0), 1);
            due("no CELL 40", x.lay(0, 40, 0), -12);
            due("41 CELLS", x.sheet(0, lane, 41), BAD);
            due("CELLS", x.count(3), 40);
        }
    }

    private static void machineFaults() {
        sentence("A FAULT is what the machine finds: 1 NULL (nothing), 2 INDEX, 3 CAST (another lane), 4 SIZE (below 0).");
        FlyWheels x = new FlyWheels();
        x.sheet(1, 1, 3);
        due("NULL", x.lay(0, 0, 0), -11);
        due("NULL, not INDEX", x.lay(0, -1, 0), -11);
        due("INDEX", x.lay(1, 3, 0), -12);
        due("INDEX", x.lay(1, -1, 0), -12);
        due("SIZE", x.sheet(1, 1, -1), -14);
        due("SIZE", x.sheet(1, 1, Check.LEAST), -14);
        torn(x, 0, 0, 0, 1);
        torn(x, 0, 1, 99, 1);
        torn(x, 1, 1, 3, 2);
        torn(x, 1, 1, -1, 2);
        torn(x, 1, 0, 0, 3);
        torn(x, 1, 2, 0, 3);
        torn(x, 1, 0, 3, 3);
        torn(x, 1, 2, -1, 3);
        due("none", x.read(1, 1, 2, 1), 1);
        due("none", x.torn(), 0);
    }

    private static void torn(FlyWheels x, int k, int lane, int f, int fault) {
        due("read of SHEET " + k + " as of lane " + lane + " from " + f, x.read(k, lane, f, 1), 0);
        due("torn of SHEET " + k + " as of lane " + lane + " from " + f, x.torn(), fault);
    }

    public static void main(String[] args) {
        answers();
        refusals();
        fractions();
        theShaft();
        theWheels();
        theActs();
        sumsAtFirst();
        speed();
        even();
        byKind();
        tape();
        tokens();
        lines();
        whatLinesTell();
        faultOne();
        faultTwo();
        faultThree();
        faultFour();
        faultFive();
        theFirstFault();
        tellsAll();
        driving();
        loading();
        joiningNone();
        theActOfATick();
        losing();
        byTicks();
        seen();
        sheets();
        machineFaults();
        Check.allQuoted(Check.TERMS, Check.TERMS, "\\d+ to \\d+|at most|at least|at first|\\(down\\)|towards 0|if |"
            + "\\bnone\\b|nothing|too long|out of its|second time|5th|17th|above 0|below 0|the end|BAD|STATE|FULL|NONE|"
            + "less|more|first|refused|gone|\\(6\\)|160");
        Check.end("the terms");
    }
}
