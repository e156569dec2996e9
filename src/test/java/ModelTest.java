import java.math.BigInteger;
import java.util.ArrayList;
import java.util.HashMap;
import java.util.HashSet;
import java.util.List;
import java.util.Map;
import java.util.Random;
import java.util.Set;
import java.util.function.Function;
import java.util.regex.Matcher;
import java.util.regex.Pattern;

/**
 * Random runs of calls, each answered by the class and by a second, slow telling of the document
 * that shares no code with it: unchanging states, a tree of odds, real rows of the three lanes.
 */
public final class ModelTest {
    private static final int BAD = -1, STATE = -2, FULL = -3, NONE = -4;
    private static final String[] NAMES = {"feed", "end", "text", "fault", "rule", "wheel", "act", "alter", "shaft",
        "put", "cut", "set", "add", "drop", "turn", "ticks", "runs", "ahead", "when", "again", "mass", "kind", "bears",
        "swap", "omit", "off", "luck", "mean", "see", "forget", "kinds", "losses", "ask", "drift", "keep", "back",
        "sheet", "lay", "read", "torn", "count"};

    private record Wheel(int kind, int mass, int loss, int swing) {
        Wheel with(int what, int v) {
            return new Wheel(what == 0 ? v : kind, what == 1 ? v : mass, what == 2 ? v : loss, what == 3 ? v : swing);
        }

        int part(int what) {
            return new int[] {kind, mass, loss, swing}[what];
        }
    }

    private record State(int mass, int swing, List<Wheel> wheels, List<Integer> acts, int tick, int done, int lack) {
        static State first() {
            return new State(5, 0, List.of(), List.of(), 0, 0, 0);
        }

        State mass(int m) {
            return new State(m, swing, wheels, acts, tick, done, lack);
        }

        State wheels(List<Wheel> ws) {
            return new State(mass, swing, ws, acts, tick, done, lack);
        }

        State wheel(int w, Wheel to) {
            List<Wheel> ws = new ArrayList<>(wheels);
            ws.set(w, to);
            return wheels(List.copyOf(ws));
        }

        State acts(List<Integer> as) {
            return new State(mass, swing, wheels, List.copyOf(as), tick, done, lack);
        }

        int joined(int w) {
            Wheel x = wheels.get(w);
            double exact = (double) (x.swing + swing) * x.mass / (x.mass + mass);
            int plain = (int) Math.floor(exact);
            if (x.kind == 0) {
                return plain;
            }
            if (x.kind == 1) {
                return plain >= x.swing ? x.swing + (plain - x.swing) / 2 : x.swing - (x.swing - plain) / 2;
            }
            int take = plain > x.swing ? plain : x.swing;
            return x.kind == 2 ? take : take - x.swing > 20 ? x.swing + 20 : take;
        }

        State did(int act) {
            if (act <= 99) {
                return new State(mass, swing + act, wheels, acts, tick, done, lack);
            }
            if (act <= 199) {
                int want = act - 100;
                return swing >= want ? new State(mass, swing - want, wheels, acts, tick, done + want, lack)
                    : new State(mass, 0, wheels, acts, tick, done + swing, lack + want - swing);
            }
            int w = act - 200;
            if (w >= wheels.size()) {
                return this;
            }
            int to = joined(w);
            int rest = swing + wheels.get(w).swing - to;
            State next = wheel(w, wheels.get(w).with(3, to));
            return new State(mass, rest, next.wheels, acts, tick, done, lack);
        }

        State lost() {
            List<Wheel> ws = new ArrayList<>();
            for (Wheel x : wheels) {
                ws.add(x.with(3, Math.max(0, x.swing - x.loss)));
            }
            return new State(mass, swing, List.copyOf(ws), acts, tick + 1, done, lack);
        }

        Integer due() {
            return acts.isEmpty() ? null : acts.get(tick % acts.size());
        }

        State ticked() {
            return due() == null ? lost() : did(due()).lost();
        }

        State ticked(int n) {
            State s = this;
            for (int i = 0; i < n; i++) {
                s = s.ticked();
            }
            return s;
        }

        int all() {
            int sum = swing;
            for (Wheel x : wheels) {
                sum += x.swing;
            }
            return sum;
        }

        List<Integer> swings() {
            List<Integer> all = new ArrayList<>();
            all.add(swing);
            for (Wheel x : wheels) {
                all.add(x.swing);
            }
            return all;
        }

        int doneIn(int n) {
            return ticked(n).done - done;
        }
    }

    private record Seen(int n, int w, int v) {
    }

    private static final class Refused extends RuntimeException {
        private static final long serialVersionUID = 1L;
        final int fault;
        final int place;

        Refused(int fault, int place) {
            this.fault = fault;
            this.place = place;
        }
    }

    private static final class Model {
        State now = State.first();
        String tape = "";
        int fault = 0;
        List<Seen> seen = new ArrayList<>();
        State[] images = new State[2];
        Object[] sheets = new Object[4];
        int torn = 0;

        private String rest;
        private int place;

        private static boolean in(int v, int a, int b) {
            return a <= v && v <= b;
        }

        private boolean no(int w) {
            return !in(w, 0, now.wheels.size() - 1);
        }

        // ---- the text

        private String token() {
            int blanks = 0;
            while (blanks < rest.length() && rest.charAt(blanks) == ' ') {
                blanks++;
            }
            place += blanks;
            rest = rest.substring(blanks);
            if (rest.isEmpty()) {
                return "";
            }
            Matcher m = Pattern.compile("[a-z]+|[0-9]+|;").matcher(rest);
            if (!m.lookingAt() || m.group().matches("[0-9]{3,}")) {
                throw new Refused(1, place);
            }
            return m.group();
        }

        private void take(String token) {
            rest = rest.substring(token.length());
            place += token.length();
        }

        private int number(int least, int most) {
            String t = token();
            if (!t.matches("[0-9]+")) {
                throw new Refused(2, place);
            }
            int v = Integer.parseInt(t);
            if (v < least || v > most) {
                throw new Refused(3, place);
            }
            take(t);
            return v;
        }

        private void stop() {
            if (!token().equals(";")) {
                throw new Refused(2, place);
            }
            take(";");
        }

        private int parse() {
            State s = State.first();
            boolean shaft = false;
            int lines = 0;
            rest = tape;
            place = 0;
            for (String t = token(); !t.isEmpty(); t = token()) {
                int k = List.of("plain", "slip", "take", "soft").indexOf(t);
                int a = List.of("drive", "load", "join").indexOf(t);
                if (k < 0 && a < 0 && !t.equals("shaft")) {
                    throw new Refused(2, place);
                }
                if (k >= 0 && s.wheels.size() == 4 || a >= 0 && s.acts.size() == 16) {
                    throw new Refused(5, place);
                }
                if (t.equals("shaft") && shaft) {
                    throw new Refused(4, place);
                }
                take(t);
                if (k >= 0) {
                    int mass = number(1, 20);
                    s = s.wheels(plus(s.wheels, new Wheel(k, mass, number(0, 9), 0)));
                } else if (a >= 0) {
                    s = s.acts(plus(s.acts, 100 * a + number(0, a == 2 ? 3 : 99)));
                } else {
                    shaft = true;
                    s = s.mass(number(1, 20));
                }
                stop();
                lines++;
            }
            now = s;
            return lines;
        }

        private static <T> List<T> plus(List<T> list, T more) {
            List<T> all = new ArrayList<>(list);
            all.add(more);
            return List.copyOf(all);
        }

        private int text() {
            int answer;
            try {
                answer = parse();
                fault = 0;
                seen.clear();
                images = new State[2];
            } catch (Refused r) {
                fault = r.fault;
                answer = -10 - r.place;
            }
            tape = "";
            return answer;
        }

        // ---- questions

        private int runs(int n, int what) {
            int speed = now.swing / now.mass;
            int lost = 0;
            State s = now;
            for (int i = 0; i < n; i++) {
                State acted = s.due() == null ? s : s.did(s.due());
                State next = acted.lost();
                lost += acted.all() - next.all();
                s = next;
                speed = Math.max(speed, s.swing / s.mass);
            }
            return new int[] {s.done - now.done, s.lack - now.lack, lost, s.all(), speed}[what];
        }

        private int when(int w) {
            State s = now;
            for (int i = 0; i <= 200; i++, s = s.ticked()) {
                if (s.wheels.get(w).swing == 0) {
                    return i;
                }
            }
            return NONE;
        }

        private int again() {
            State s = now;
            for (int i = 1; i <= 200; i++) {
                s = s.ticked();
                boolean turn = now.acts.isEmpty() || (s.tick - now.tick) % now.acts.size() == 0;
                if (turn && s.swings().equals(now.swings())) {
                    return i;
                }
            }
            return NONE;
        }

        private int best(int w, int part, int n, int what) {
            int least = part == 1 ? 1 : 0;
            int most = part == 1 ? 20 : 3;
            int best = NONE;
            int top = -1;
            for (int v = least; v <= most; v++) {
                top = Math.max(top, variant(w, part, v).doneIn(n));
            }
            for (int v = most; v >= least; v--) {
                if (variant(w, part, v).doneIn(n) == top) {
                    best = v;
                }
            }
            return what == 0 ? best : top;
        }

        private State variant(int w, int part, int v) {
            return now.wheel(w, now.wheels.get(w).with(part, v));
        }

        private int bears(int w, int n) {
            int best = NONE;
            for (int v = 0; v <= 9; v++) {
                if (variant(w, 2, v).ticked(n).lack == now.lack) {
                    best = v;
                }
            }
            return best;
        }

        private int swap(int n, int what) {
            int base = now.doneIn(n);
            int best = NONE;
            int top = base;
            for (int code = 0; code < 1600; code++) {
                int i = code / 100;
                int j = code % 100;
                if (i < j && j < now.acts.size()) {
                    List<Integer> as = new ArrayList<>(now.acts);
                    as.set(i, now.acts.get(j));
                    as.set(j, now.acts.get(i));
                    int done = now.acts(as).doneIn(n);
                    if (done > top) {
                        top = done;
                        best = code;
                    }
                }
            }
            return best == NONE ? NONE : what == 0 ? best : top;
        }

        private int doneBut(int n, int act, int wheel) {
            State s = now;
            for (int i = 0; i < n; i++) {
                boolean idle = now.acts.isEmpty() || s.tick % now.acts.size() == act || s.due() == 200 + wheel;
                s = idle ? s.lost() : s.ticked();
            }
            return s.done - now.done;
        }

        private int without(int n, int what, boolean acts) {
            int best = NONE;
            int top = now.doneIn(n);
            for (int i = 0; i < (acts ? now.acts.size() : now.wheels.size()); i++) {
                int done = acts ? doneBut(n, i, 99) : doneBut(n, 99, i);
                if (done > top) {
                    top = done;
                    best = i;
                }
            }
            return best == NONE ? NONE : what == 0 ? best : top;
        }

        private BigInteger odds(State s, int v, int n, Function<State, Integer> worth) {
            if (n == 0) {
                return BigInteger.valueOf(worth.apply(s));
            }
            if (s.due() != null && s.due() < 100) {
                return odds(s.ticked(), v, n - 1, worth).multiply(BigInteger.valueOf(10 - v))
                    .add(odds(s.lost(), v, n - 1, worth).multiply(BigInteger.valueOf(v)));
            }
            return odds(s.ticked(), v, n - 1, worth).multiply(BigInteger.TEN);
        }

        private long fraction(BigInteger above, int n, int what) {
            BigInteger below = BigInteger.TEN.pow(n);
            BigInteger g = above.gcd(below);
            return (what == 0 ? above : below).divide(g).longValueExact();
        }

        private boolean fits(State s) {
            for (Seen x : seen) {
                if (x.w >= s.wheels.size() || s.ticked(x.n).wheels.get(x.w).swing != x.v) {
                    return false;
                }
            }
            return true;
        }

        private int fitting(int w, int part) {
            int bits = 0;
            for (int v = 0; v <= (part == 0 ? 3 : 9); v++) {
                bits += fits(variant(w, part, v)) ? 1 << v : 0;
            }
            return bits;
        }

        private int ask(int w, int what) {
            int bits = fitting(w, 2);
            int best = NONE;
            int fewest = Integer.bitCount(bits);
            for (int t = 0; t <= 40; t++) {
                Map<Integer, Integer> groups = new HashMap<>();
                for (int v = 0; v <= 9; v++) {
                    if ((bits & 1 << v) != 0) {
                        groups.merge(variant(w, 2, v).ticked(t).wheels.get(w).swing, 1, Integer::sum);
                    }
                }
                int worst = groups.values().stream().mapToInt(x -> x).max().orElse(0);
                if (worst < fewest) {
                    fewest = worst;
                    best = t;
                }
            }
            return best == NONE ? NONE : what == 0 ? best : fewest;
        }

        private int drift(int seed, int n, int what) {
            long s = seed;
            State x = now;
            for (int i = 0; i < n; i++) {
                s = (int) (s * 1103515245L + 12345L);
                long got = (s & 0x7fffffffL) / 65536;
                x = x.did((int) (got % 204)).lost();
            }
            return what == 0 ? x.done - now.done : x.all();
        }

        // ---- sheets: here the machine itself finds the faults

        private int size(Object row) {
            return row instanceof byte[] b ? b.length : row instanceof short[] s ? s.length : ((int[]) row).length;
        }

        private int lay(int k, int i, int v) {
            try {
                if (sheets[k] instanceof byte[] b) {
                    b[i] = (byte) v;
                } else if (sheets[k] instanceof short[] s) {
                    s[i] = (short) v;
                } else {
                    ((int[]) sheets[k])[i] = v;
                }
                return 1;
            } catch (NullPointerException e) {
                return -11;
            } catch (ArrayIndexOutOfBoundsException e) {
                return -12;
            }
        }

        private int cell(int k, int lane, int i) {
            return lane == 0 ? ((byte[]) sheets[k])[i] : lane == 1 ? ((short[]) sheets[k])[i] : ((int[]) sheets[k])[i];
        }

        private int read(int k, int lane, int f, int n) {
            State before = now;
            int found = 0;
            int came = 0;
            try {
                for (; came < n; came++) {
                    if (add(cell(k, lane, f + came)) < 0) {
                        now = before;
                        return -20 - came;
                    }
                }
            } catch (NullPointerException e) {
                found = 1;
            } catch (ArrayIndexOutOfBoundsException e) {
                found = 2;
            } catch (ClassCastException e) {
                found = 3;
            }
            torn = found;
            return came;
        }

        private int add(int v) {
            if (!in(v, 0, 203)) {
                return BAD;
            }
            if (now.acts.size() == 16) {
                return FULL;
            }
            now = now.acts(plus(now.acts, v));
            return now.acts.size();
        }

        // ---- the calls

        long call(String name, int a, int b, int c, int d) {
            return switch (name) {
                case "feed", "end", "text", "fault", "rule", "wheel", "act" -> telling(name, a, b);
                case "alter", "shaft", "put", "cut", "set", "add", "drop", "turn", "ticks" -> changing(name, a, b, c);
                case "see", "forget", "kinds", "losses", "ask", "drift" -> seeing(name, a, b, c);
                case "keep", "back", "sheet", "lay", "read", "torn", "count" -> keeping(name, a, b, c, d);
                default -> asking(name, a, b, c);
            };
        }

        private int telling(String name, int a, int b) {
            switch (name) {
                case "feed":
                    if (!in(a, 0, 127)) {
                        return BAD;
                    }
                    if (tape.length() == 160) {
                        return FULL;
                    }
                    tape += (char) a;
                    return tape.length();
                case "end":
                    if (!in(a, 0, tape.length())) {
                        return BAD;
                    }
                    int had = tape.length();
                    tape = tape.substring(0, a);
                    return had;
                case "text":
                    return text();
                case "fault":
                    return fault;
                case "rule":
                    return !in(a, 0, 8) ? BAD : new int[] {now.wheels.size(), now.acts.size(), now.tick, now.done,
                        now.lack, now.mass, now.swing, now.swing / now.mass, now.due() == null ? NONE : now.due()}[a];
                case "wheel":
                    return no(a) || !in(b, 0, 5) ? BAD : b < 4 ? now.wheels.get(a).part(b)
                        : b == 4 ? now.wheels.get(a).swing / now.wheels.get(a).mass : now.joined(a);
                default:
                    return in(a, 0, now.acts.size() - 1) ? now.acts.get(a) : BAD;
            }
        }

        private int changing(String name, int a, int b, int c) {
            State was = now;
            switch (name) {
                case "alter":
                    if (no(a) || !in(b, 0, 3) || !in(c, b == 1 ? 1 : 0, new int[] {3, 20, 9, 9999}[b])) {
                        return BAD;
                    }
                    now = variant(a, b, c);
                    return was.wheels.get(a).part(b);
                case "shaft":
                    if (!in(a, 1, 20)) {
                        return BAD;
                    }
                    now = now.mass(a);
                    return was.mass;
                case "put":
                    if (!in(a, 0, 3) || !in(b, 1, 20) || !in(c, 0, 9)) {
                        return BAD;
                    }
                    if (now.wheels.size() == 4) {
                        return FULL;
                    }
                    now = now.wheels(plus(now.wheels, new Wheel(a, b, c, 0)));
                    return now.wheels.size();
                case "cut":
                    if (!in(a, 0, now.wheels.size())) {
                        return BAD;
                    }
                    now = now.wheels(List.copyOf(now.wheels.subList(0, a)));
                    return was.wheels.size();
                default:
                    return changingActs(name, a, b);
            }
        }

        private int changingActs(String name, int a, int b) {
            State was = now;
            switch (name) {
                case "set":
                    if (!in(a, 0, now.acts.size() - 1) || !in(b, 0, 203)) {
                        return BAD;
                    }
                    List<Integer> as = new ArrayList<>(now.acts);
                    as.set(a, b);
                    now = now.acts(as);
                    return was.acts.get(a);
                case "add":
                    return add(a);
                case "drop":
                    if (!in(a, 0, now.acts.size())) {
                        return BAD;
                    }
                    now = now.acts(now.acts.subList(0, a));
                    return was.acts.size();
                case "turn":
                    if (!in(a, 0, 203)) {
                        return BAD;
                    }
                    if (a >= 200 && no(a - 200)) {
                        return STATE;
                    }
                    now = now.did(a);
                    return now.swing;
                default:
                    if (!in(a, 0, 100)) {
                        return BAD;
                    }
                    if (now.tick + a > 9999) {
                        return FULL;
                    }
                    now = now.ticked(a);
                    return now.done - was.done;
            }
        }

        private long asking(String name, int a, int b, int c) {
            switch (name) {
                case "runs":
                    return in(a, 0, 200) && in(b, 0, 4) ? runs(a, b) : BAD;
                case "ahead":
                    return no(a) || !in(b, 0, 200) ? BAD : now.ticked(b).wheels.get(a).swing;
                case "when":
                    return no(a) ? BAD : when(a);
                case "again":
                    return again();
                case "mass":
                    return no(a) || !in(b, 0, 200) || !in(c, 0, 1) ? BAD : best(a, 1, b, c);
                case "kind":
                    return no(a) || !in(b, 0, 200) || !in(c, 0, 1) ? BAD : best(a, 0, b, c);
                case "bears":
                    return no(a) || !in(b, 0, 200) ? BAD : bears(a, b);
                case "swap":
                    return !in(a, 0, 200) || !in(b, 0, 1) ? BAD : swap(a, b);
                case "omit":
                    return !in(a, 0, 200) || !in(b, 0, 1) ? BAD : without(a, b, true);
                case "off":
                    return !in(a, 0, 200) || !in(b, 0, 1) ? BAD : without(a, b, false);
                default:
                    if (!in(a, 0, 10) || !in(b, 0, 8) || !in(c, 0, 1)) {
                        return BAD;
                    }
                    State from = now;
                    return fraction(odds(now, a, b, name.equals("luck") ? s -> s.lack == from.lack ? 1 : 0
                        : s -> s.done - from.done), b, c);
            }
        }

        private int seeing(String name, int a, int b, int c) {
            switch (name) {
                case "see":
                    if (!in(a, 0, 40) || no(b) || !in(c, 0, 9999999)) {
                        return BAD;
                    }
                    if (seen.size() == 6) {
                        return FULL;
                    }
                    seen.add(new Seen(a, b, c));
                    return seen.size();
                case "forget":
                    if (!in(a, 0, seen.size())) {
                        return BAD;
                    }
                    int had = seen.size();
                    seen = new ArrayList<>(seen.subList(0, a));
                    return had;
                case "kinds":
                    return no(a) ? BAD : fitting(a, 0);
                case "losses":
                    return no(a) ? BAD : fitting(a, 2);
                case "ask":
                    return no(a) || !in(b, 0, 1) ? BAD : ask(a, b);
                default:
                    return !in(b, 1, 200) || !in(c, 0, 1) ? BAD : now.wheels.isEmpty() ? STATE : drift(a, b, c);
            }
        }

        private int keeping(String name, int a, int b, int c, int d) {
            switch (name) {
                case "keep":
                    if (!in(a, 0, 1)) {
                        return BAD;
                    }
                    int had = images[a] == null ? 0 : 1;
                    images[a] = now;
                    return had;
                case "back":
                    if (!in(a, 0, 1)) {
                        return BAD;
                    }
                    if (images[a] == null) {
                        return STATE;
                    }
                    now = images[a];
                    return now.tick;
                case "sheet":
                    if (!in(a, 0, 3) || !in(b, 0, 2) || c > 40) {
                        return BAD;
                    }
                    if (c < 0) {
                        return -14;
                    }
                    sheets[a] = b == 0 ? new byte[c] : b == 1 ? new short[c] : new int[c];
                    return 1;
                case "lay":
                    return in(a, 0, 3) ? lay(a, b, c) : BAD;
                case "read":
                    return !in(a, 0, 3) || !in(b, 0, 2) || !in(d, 0, 40) ? BAD : read(a, b, c, d);
                case "torn":
                    return torn;
                default:
                    return counting(a);
            }
        }

        private int counting(int what) {
            return !in(what, 0, 5) ? BAD : new int[] {seen.size(), (images[0] == null ? 0 : 1) + (images[1] == null ? 0 : 1),
                tape.length(), sheets[0] == null ? NONE : size(sheets[0]),
                now.wheels.stream().mapToInt(Wheel::mass).sum(), now.wheels.stream().mapToInt(Wheel::loss).sum()}[what];
        }
    }

    private static long call(FlyWheels x, String name, int a, int b, int c, int d) {
        return switch (name) {
            case "feed" -> x.feed(a);
            case "end" -> x.end(a);
            case "text" -> x.text();
            case "fault" -> x.fault();
            case "rule" -> x.rule(a);
            case "wheel" -> x.wheel(a, b);
            case "act" -> x.act(a);
            case "alter" -> x.alter(a, b, c);
            case "shaft" -> x.shaft(a);
            case "put" -> x.put(a, b, c);
            case "cut" -> x.cut(a);
            case "set" -> x.set(a, b);
            case "add" -> x.add(a);
            case "drop" -> x.drop(a);
            case "turn" -> x.turn(a);
            case "ticks" -> x.ticks(a);
            case "runs" -> x.runs(a, b);
            case "ahead" -> x.ahead(a, b);
            case "when" -> x.when(a);
            case "again" -> x.again();
            case "mass" -> x.mass(a, b, c);
            case "kind" -> x.kind(a, b, c);
            case "bears" -> x.bears(a, b);
            case "swap" -> x.swap(a, b);
            case "omit" -> x.omit(a, b);
            case "off" -> x.off(a, b);
            case "luck" -> x.luck(a, b, c);
            case "mean" -> x.mean(a, b, c);
            case "see" -> x.see(a, b, c);
            case "forget" -> x.forget(a);
            case "kinds" -> x.kinds(a);
            case "losses" -> x.losses(a);
            case "ask" -> x.ask(a, b);
            case "drift" -> x.drift(a, b, c);
            case "keep" -> x.keep(a);
            case "back" -> x.back(a);
            case "sheet" -> x.sheet(a, b, c);
            case "lay" -> x.lay(a, b, c);
            case "read" -> x.read(a, b, c, d);
            case "torn" -> x.torn();
            case "count" -> x.count(a);
            default -> throw new IllegalStateException(name);
        };
    }

    // ---- what is called

    private static int wild(Random r) {
        int[] odd = {-1, 0, 41, 201, 204, 10000, 10000000, Integer.MAX_VALUE, Integer.MIN_VALUE, -12, 128, 21};
        return r.nextBoolean() ? odd[r.nextInt(odd.length)] : r.nextInt();
    }

    /** Bounds of each argument, a little beyond what the document takes. */
    private static int[] bounds(String name) {
        return switch (name) {
            case "feed" -> new int[] {-1, 128};
            case "end" -> new int[] {-1, 161};
            case "rule" -> new int[] {-1, 9};
            case "wheel" -> new int[] {-1, 4, -1, 6};
            case "act", "set" -> new int[] {-1, 16, -1, 204};
            case "alter" -> new int[] {0, 3, 0, 3, 0, 21};
            case "shaft" -> new int[] {0, 21};
            case "put" -> new int[] {0, 3, 0, 20, 0, 9};
            case "cut" -> new int[] {0, 4};
            case "add", "turn" -> new int[] {-1, 204};
            case "drop" -> new int[] {0, 16};
            case "ticks" -> new int[] {-1, 20};
            case "runs" -> new int[] {0, 200, -1, 5};
            case "ahead", "bears" -> new int[] {0, 3, 0, 60};
            case "mass", "kind" -> new int[] {0, 3, 0, 60, 0, 1};
            case "swap", "omit", "off" -> new int[] {0, 40, 0, 1};
            case "luck", "mean" -> new int[] {0, 10, 0, 8, 0, 1};
            case "see" -> new int[] {0, 6, 0, 3, 0, 30};
            case "forget" -> new int[] {0, 6};
            case "when", "kinds", "losses" -> new int[] {0, 3};
            case "ask" -> new int[] {0, 3, 0, 1};
            case "drift" -> new int[] {-9, 9, 0, 60, 0, 1};
            case "keep", "back" -> new int[] {0, 1};
            case "sheet" -> new int[] {0, 3, 0, 2, -1, 12};
            case "lay" -> new int[] {0, 3, -1, 12, 0, 210};
            case "read" -> new int[] {0, 3, 0, 2, -1, 12, 0, 5};
            case "count" -> new int[] {-1, 6};
            default -> new int[] {};
        };
    }

    private static int argument(Random r, String name, int i) {
        int[] bounds = bounds(name);
        if (2 * i >= bounds.length || r.nextInt(60) == 0) {
            return wild(r);
        }
        if (name.equals("alter") && i == 2 && r.nextInt(3) == 0) {
            return r.nextInt(10001);
        }
        return bounds[2 * i] + r.nextInt(bounds[2 * i + 1] - bounds[2 * i] + 1);
    }

    private static String randomText(Random r) {
        String[] words = {"plain", "slip", "take", "soft", "shaft", "drive", "drive", "load", "load", "join", "join"};
        StringBuilder b = new StringBuilder();
        int lines = r.nextInt(22);
        for (int i = 0; i < lines; i++) {
            int word = r.nextInt(words.length);
            b.append(words[word]).append(r.nextInt(8) == 0 ? "" : " ");
            if (word < 4) {
                b.append(1 + r.nextInt(20)).append(' ').append(r.nextInt(10));
            } else {
                b.append(word < 5 ? 1 + r.nextInt(20) : word < 9 ? r.nextInt(100) : r.nextInt(4));
            }
            b.append(r.nextInt(9) == 0 ? " ; " : ";");
        }
        // A slip of the pen now and then.
        for (int i = r.nextInt(3); i > 0 && b.length() > 0; i--) {
            b.setCharAt(r.nextInt(b.length()), "; 0129ax!".charAt(r.nextInt(9)));
        }
        return b.length() > 160 ? b.substring(0, 160) : b.toString();
    }

    private static int wrong = 0;
    private static final Set<String> usual = new HashSet<>();

    private static boolean same(int run, FlyWheels x, Model m, String name, int[] v) {
        long want = m.call(name, v[0], v[1], v[2], v[3]);
        long got = call(x, name, v[0], v[1], v[2], v[3]);
        if (want >= 0) {
            usual.add(name);
        }
        if (got != want) {
            wrong++;
            System.out.println("run " + run + ": " + name + java.util.Arrays.toString(v) + " answered " + got
                + ", due is " + want);
        }
        return got == want;
    }

    private static boolean all(int run, FlyWheels x, Model m) {
        boolean well = true;
        for (int what = 0; what <= 8; what++) {
            well &= same(run, x, m, "rule", new int[] {what, 0, 0, 0});
        }
        for (int i = 0; i < 16; i++) {
            well &= same(run, x, m, "act", new int[] {i, 0, 0, 0});
            well &= same(run, x, m, "wheel", new int[] {i / 4, i % 4, 0, 0});
        }
        for (int what = 0; what <= 5; what++) {
            well &= same(run, x, m, "count", new int[] {what, 0, 0, 0});
        }
        return well & same(run, x, m, "torn", new int[4]) & same(run, x, m, "fault", new int[4]);
    }

    private static void run(int run) {
        Random r = new Random(run);
        FlyWheels x = new FlyWheels();
        Model m = new Model();
        boolean well = true;
        for (int i = 0; i < 90 && well; i++) {
            String name = NAMES[r.nextInt(NAMES.length)];
            if (name.equals("text") && r.nextInt(3) > 0) {
                String text = randomText(r);
                well = same(run, x, m, "end", new int[4]);
                for (int at = 0; at < text.length(); at++) {
                    well &= same(run, x, m, "feed", new int[] {text.charAt(at), 0, 0, 0});
                }
            }
            if (name.equals("see") && r.nextInt(3) > 0 && !m.now.wheels.isEmpty()) {
                // What is seen of a rig much like this one.
                int n = r.nextInt(41);
                int w = r.nextInt(m.now.wheels.size());
                State like = m.variant(w, 2 * r.nextInt(2), r.nextInt(4));
                well &= same(run, x, m, name, new int[] {n, w, like.ticked(n).wheels.get(w).swing, 0});
            } else {
                int[] v = {argument(r, name, 0), argument(r, name, 1), argument(r, name, 2), argument(r, name, 3)};
                well &= same(run, x, m, name, v);
            }
            well &= i % 8 != 0 || all(run, x, m);
        }
        if (well) {
            all(run, x, m);
        }
    }

    public static void main(String[] args) {
        int runs = args.length > 0 ? Integer.parseInt(args[0]) : 3000;
        for (int run = 0; run < runs && wrong < 20; run++) {
            run(run);
        }
        for (String name : NAMES) {
            if (!usual.contains(name)) {
                wrong++;
                System.out.println("no run had an ordinary answer of " + name);
            }
        }
        System.out.println(wrong == 0 ? runs + " random runs are as the model tells" : wrong + " answers differ");
        if (wrong != 0) {
            System.exit(1);
        }
    }
}
