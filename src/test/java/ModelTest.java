import java.util.ArrayList;
import java.util.Arrays;
import java.util.List;
import java.util.Map;
import java.util.Random;
import java.util.TreeMap;
import java.util.TreeSet;

/**
 * Long runs of calls, each answer compared with that of a model that is written straight from the
 * document and tries all choices. The seeds are fixed: every run is the same each time.
 */
public final class ModelTest {
    private static final int MOST_CALLS = 512;
    private static final String[] NAMES = {"c", "c#", "d", "d#", "e", "f", "f#", "g", "g#", "a", "a#", "b"};
    private static int wrong = 0;
    private static final Map<String, Integer> SEEN = new TreeMap<>();

    public static void main(String[] args) {
        for (int seed = 0; seed < 3000 && wrong < 20; seed++) {
            new Run(seed).mixed();
        }
        for (int seed = 0; seed < 3000 && wrong < 20; seed++) {
            new Run(100000 + seed).hammers();
        }
        for (int seed = 0; seed < 1500 && wrong < 20; seed++) {
            new Run(200000 + seed).texts();
        }
        for (int seed = 0; seed < 600 && wrong < 20; seed++) {
            new Run(300000 + seed).wild();
        }
        seenEnough();
        System.out.println(wrong == 0 ? "all answers are the model's" : wrong + " answers are not the model's");
        if (wrong != 0) {
            System.exit(1);
        }
    }

    /** The runs are of no use if they never reach the rarer answers. */
    private static void seenEnough() {
        for (String what : new String[] {"why 0", "why 1", "why 2", "why 3", "why 4", "why 5", "why -1",
                "fault 1", "fault 2", "fault 3", "fault 4", "fault 0", "shift +", "shift -", "shift none",
                "nearest 0", "nearest 5", "broken", "pin crowded", "kept broken"}) {
            if (SEEN.getOrDefault(what, 0) < 20) {
                wrong++;
                System.out.println("too seldom seen: " + what + ", " + SEEN.getOrDefault(what, 0));
            }
        }
    }

    private static void saw(String what) {
        SEEN.merge(what, 1, Integer::sum);
    }

    /** One object and its model. */
    private static final class Run {
        final int seed;
        final Random random;
        final ChimeDrum x = new ChimeDrum();
        final Model m = new Model();
        final List<String> log = new ArrayList<>();

        Run(int seed) {
            this.seed = seed;
            this.random = new Random(seed * 7919L + 13);
        }

        boolean goesOn() {
            return log.size() < MOST_CALLS && wrong < 20;
        }

        int below(int n) {
            return random.nextInt(n);
        }

        int between(int low, int high) {
            return low + random.nextInt(high - low + 1);
        }

        /** Mostly within the bounds, at times just outside or far off. */
        int about(int low, int high) {
            int kind = below(40);
            if (kind == 0) return low - 1;
            if (kind == 1) return high + 1;
            if (kind == 2) return low;
            if (kind == 3) return high;
            if (kind == 4 && below(4) == 0) return below(2) == 0 ? Integer.MIN_VALUE : Integer.MAX_VALUE;
            return high < low ? low : between(low, high);
        }

        int ask(String op, int... a) {
            if (!goesOn()) return 0;
            int want = m.answer(op, a);
            int got = call(x, op, a);
            log.add(op + Arrays.toString(a) + " = " + got);
            if (got != want) {
                wrong++;
                System.out.println("run " + seed + ", call " + log.size() + ": " + op + Arrays.toString(a)
                        + " answered " + got + ", due is " + want);
            }
            return got;
        }

        void hang(int most, int topWeight) {
            int n = between(1, most);
            for (int i = 0; i < n; i++) {
                ask("bell", about(0, 47), about(1, topWeight), about(1, 3));
            }
        }

        void feedText(String text) {
            for (int at = 0; at < text.length(); at += 20) {
                int[] words = new int[5];
                for (int i = 0; i < 20; i++) {
                    int c = at + i < text.length() ? text.charAt(at + i) : below(256);
                    words[i / 4] = words[i / 4] << 8 | c;
                }
                ask("feed", words);
            }
        }

        void tell(int t, String text) {
            feedText(text);
            if (below(30) == 0) {
                ask("count", 8);
            }
            int fault = ask("tune", t, text.length());
            if (fault >= 0) saw("fault " + fault / 100);
        }

        String note(int pitch) {
            int octave = pitch / 12;
            int step = pitch % 12;
            if (below(6) == 0) {
                if (step == 5) return "e#" + octave;
                if (step == 0 && octave > 0) return "b#" + (octave - 1);
            }
            return NAMES[step] + octave;
        }

        int somePitch(int by, int few) {
            if (m.bells.isEmpty() || below(40) == 0) return below(48);
            int from = Math.min(few, m.bells.size());
            return Math.floorMod(m.bells.get(below(from)).pitch - by, 48);
        }

        String someText(int mostBytes, int longest, int few) {
            StringBuilder text = new StringBuilder();
            int by = below(3) == 0 ? between(-24, 24) : 0;
            int bytes = between(2, mostBytes);
            while (true) {
                String unit = "";
                int kind = below(10);
                if (kind < 2) {
                    unit = "r";
                } else if (kind < 7) {
                    unit = note(somePitch(by, few));
                } else {
                    TreeSet<Integer> pitches = new TreeSet<>();
                    for (int i = between(2, 6); i > 0; i--) pitches.add(somePitch(by, few));
                    List<Integer> order = new ArrayList<>(pitches);
                    java.util.Collections.shuffle(order, random);
                    for (int i = 0; i < order.size() && i < 4; i++) unit += note(order.get(i));
                    if (order.size() > 1) unit = "(" + unit + ")";
                }
                unit += between(1, longest);
                if (text.length() + unit.length() > bytes) break;
                text.append(unit);
            }
            return text.length() == 0 ? "r" + between(1, 9) : text.toString();
        }

        String spoilt(String text) {
            StringBuilder s = new StringBuilder(text);
            for (int i = between(1, 2); i > 0 && s.length() > 0; i--) {
                int at = below(s.length());
                char c = "cdefgabr()#0123456789h`:/ ".charAt(below(26));
                int kind = below(3);
                if (kind == 0) s.deleteCharAt(at);
                else if (kind == 1) s.setCharAt(at, c);
                else if (s.length() < 60) s.insert(at, c);
            }
            return s.toString();
        }

        void readBack(int hole, int n) {
            int size = ask("read", hole, n);
            for (int i = 0; i < size && i < 60; i++) ask("octet", i);
            ask("octet", size);
        }

        void lookAtAll() {
            for (int what = 0; what <= 9; what++) ask("count", what);
            for (int b = 0; b < m.bells.size(); b++) {
                ask("look", b, 5);
                ask("look", b, 6);
            }
            for (int cell : new ArrayList<>(m.pins.keySet())) ask("strikes", cell / 100, cell % 100);
        }

        void trySet(int t, int hole) {
            int why = ask("why", t, hole);
            saw("why " + why);
            ask("moves", t, hole);
            boolean broken = m.broken(0, m.tracks()) > 0;
            if (ask("set", t, hole) != -1 && broken && m.broken(0, m.tracks()) > 0) saw("kept broken");
        }

        /** All calls, with arguments that mostly make sense. */
        void mixed() {
            hang(12, below(3) == 0 ? 99 : 20);
            if (below(2) == 0) ask("holes", between(8, 64));
            if (below(2) == 0) ask("rest", between(1, 4));
            if (below(3) == 0) ask("force", between(1, 200));
            if (below(2) == 0) ask("life", between(1, 6));
            int few = between(1, 4);
            while (goesOn()) {
                step(below(28), few);
            }
        }

        void step(int kind, int few) {
            int n = m.n;
            int tracks = m.tracks();
            switch (kind) {
                case 0: if (below(6) == 0) ask("bell", about(0, 47), about(1, 99), about(1, 3)); break;
                case 1: if (below(3) == 0) ask("crack", about(0, m.bells.size() - 1), below(2)); break;
                case 2: if (below(12) == 0) ask("holes", about(8, 64)); break;
                case 3: if (below(4) == 0) ask("rest", about(1, 8)); break;
                case 4: if (below(4) == 0) ask("force", below(2) == 0 ? about(1, 60) : about(1, 999)); break;
                case 5: if (below(4) == 0) ask("life", below(2) == 0 ? about(1, 8) : about(1, 10000)); break;
                case 6: ask("feed", random.nextInt(), random.nextInt(), 0, -1, random.nextInt()); break;
                case 7: if (below(4) == 0) ask("tune", about(0, 5), about(0, 60)); break;
                case 8: case 9: case 10: {
                    if (m.tape.length() > 20) ask("tune", 5, 0);
                    String text = someText(60, below(3) == 0 ? 9 : 3, few);
                    if (m.tape.length() == 0) tell(below(6), below(6) == 0 ? spoilt(text) : text);
                    break;
                }
                case 11: {
                    int shift = ask("shift", about(0, 5));
                    saw(shift == -101 ? "no tune" : shift == -100 ? "shift none" : shift < 0 ? "shift -" : shift > 0 ? "shift +" : "shift 0");
                    break;
                }
                case 12: case 13: case 14: trySet(about(0, 5), about(0, n - 1)); break;
                case 15: saw("nearest " + ask("nearest", about(0, n - 1))); break;
                case 16: case 17: putPin(about(0, tracks - 1), about(0, n - 1)); break;
                case 18: ask("pin", about(0, tracks - 1), about(0, n - 1), 0); break;
                case 19: case 20: ask("turn", about(0, n - 1), below(3) == 0 ? about(1, 640) : about(1, n)); break;
                case 21: readBack(about(0, n - 1), below(2) == 0 ? n : about(1, n)); break;
                case 22: ask("octet", about(0, 40)); break;
                case 23: touchPin(); break;
                case 24: ask("look", about(0, m.bells.size() - 1), about(0, 6)); break;
                case 25: ask("told", about(0, 5), about(0, 4)); break;
                case 26: ask("count", about(0, 9)); break;
                default: if (below(8) == 0) lookAtAll(); break;
            }
        }

        void putPin(int track, int hole) {
            boolean free = m.isPlace(track, hole) && !m.pins.containsKey(track * 100 + hole);
            if (ask("pin", track, hole, 1) == 0 && free) saw("pin crowded");
        }

        void touchPin() {
            if (m.broken(0, m.tracks()) > 0) saw("broken");
            if (m.pins.isEmpty() || below(4) == 0) {
                ask(below(2) == 0 ? "mend" : "strikes", about(0, m.tracks() - 1), about(0, m.n - 1));
                return;
            }
            List<Integer> cells = new ArrayList<>(m.pins.keySet());
            int cell = cells.get(below(cells.size()));
            int kind = below(4);
            if (kind == 0) ask("mend", cell / 100, cell % 100);
            else if (kind == 1) ask("pin", cell / 100, cell % 100, below(2));
            else ask("strikes", cell / 100, cell % 100);
        }

        /** Few bells with many strokes each, and pins that half fit. */
        void hammers() {
            int bells = between(1, 2);
            for (int b = 0; b < bells; b++) ask("bell", 5 * b, 1, below(4) == 0 ? between(1, 2) : 3);
            int n = between(8, 64);
            ask("holes", n);
            for (int t = 0; t < 6; t++) {
                String text = someText(60, between(1, 3), bells);
                tell(t, text);
            }
            int around = below(n);
            while (goesOn() && log.size() < 330) {
                ask("rest", 1);
                for (int i = below(30); i > 0; i--) {
                    putPin(below(m.tracks()), Math.floorMod(around + below(24) - 4, n));
                }
                ask("rest", below(5) == 0 ? between(1, 8) : between(1, 4));
                if (below(4) == 0) ask("turn", 0, between(1, 64));
                int hole = Math.floorMod(around + between(-2, 2), n);
                saw("nearest " + ask("nearest", hole));
                trySet(below(6), hole);
                if (below(4) == 0) lookAtAll();
            }
            lookAtAll();
            readBack(around, n);
        }

        /** Texts with faults. */
        void texts() {
            hang(6, 20);
            while (goesOn()) {
                int t = below(6);
                String text = someText(below(3) == 0 ? 60 : 16, 9, 12);
                int kind = below(6);
                if (kind == 0) text = "(" + note(below(12)) + note(below(12)) + note(12 + below(12))
                        + note(24 + below(12)) + note(36 + below(12)) + ")1";
                if (kind == 1) text = "(" + note(below(4)) + note(below(4)) + note(below(4)) + ")1" + text;
                if (kind == 2) text = text.replaceAll("r[1-9]", "r9") + "r9r9r9r9r9r9r9r9";
                if (text.length() > 60) text = text.substring(0, 60);
                tell(t, below(2) == 0 ? spoilt(text) : text);
                for (int what = 0; what < 5; what++) ask("told", t, what);
                ask("shift", t);
                ask("count", 8);
            }
        }

        /** Any call with any numbers. */
        void wild() {
            String[] ops = {"bell", "crack", "holes", "rest", "force", "life", "feed", "tune", "shift", "set",
                "moves", "why", "nearest", "pin", "mend", "turn", "read", "octet", "strikes", "look", "told", "count"};
            while (goesOn()) {
                String op = ops[below(ops.length)];
                int[] a = new int[op.equals("feed") ? 5 : op.equals("bell") || op.equals("pin") ? 3 : 2];
                if ("holes rest force life shift nearest octet count".contains(op)) a = new int[1];
                for (int i = 0; i < a.length; i++) {
                    int kind = below(12);
                    a[i] = kind < 8 ? between(-1, 12) : kind < 10 ? between(-70, 70) : kind < 11 ? between(-1100, 11000)
                            : random.nextInt();
                }
                if (op.equals("crack")) a[1] &= 1;
                if (op.equals("pin")) a[2] &= 1;
                ask(op, a);
            }
        }
    }

    private static int call(ChimeDrum x, String op, int[] a) {
        switch (op) {
            case "bell": return x.bell(a[0], a[1], a[2]);
            case "crack": return x.crack(a[0], a[1] == 1) ? 1 : 0;
            case "holes": return x.holes(a[0]) ? 1 : 0;
            case "rest": return x.rest(a[0]) ? 1 : 0;
            case "force": return x.force(a[0]) ? 1 : 0;
            case "life": return x.life(a[0]) ? 1 : 0;
            case "feed": return x.feed(a[0], a[1], a[2], a[3], a[4]);
            case "tune": return x.tune(a[0], a[1]);
            case "shift": return x.shift(a[0]);
            case "set": return x.set(a[0], a[1]);
            case "moves": return x.moves(a[0], a[1]);
            case "why": return x.why(a[0], a[1]);
            case "nearest": return x.nearest(a[0]);
            case "pin": return x.pin(a[0], a[1], a[2] == 1) ? 1 : 0;
            case "mend": return x.mend(a[0], a[1]);
            case "turn": return x.turn(a[0], a[1]);
            case "read": return x.read(a[0], a[1]);
            case "octet": return x.octet(a[0]);
            case "strikes": return x.strikes(a[0], a[1]);
            case "look": return x.look(a[0], a[1]);
            case "told": return x.told(a[0], a[1]);
            case "count": return x.count(a[0]);
            default: throw new IllegalArgumentException(op);
        }
    }

    private static final class Bell {
        int pitch, weight, hammers, first;
        boolean cracked;
    }

    private static final class Unit {
        final List<Integer> pitches = new ArrayList<>();
        int length;
    }

    private static final class Stroke {
        int bell, hole, hammer;
    }

    /** The document, as plainly as it can be written. A pin's key is 100 times its track and its hole. */
    private static final class Model {
        final List<Bell> bells = new ArrayList<>();
        final TreeMap<Integer, Integer> pins = new TreeMap<>();
        final List<List<Unit>> tunes = new ArrayList<>();
        StringBuilder tape = new StringBuilder();
        String heard = "";
        int n = 32, r = 3, f = 200, l = 1000, moved = 0;

        Model() {
            for (int t = 0; t < 6; t++) tunes.add(new ArrayList<>());
        }

        int tracks() {
            int sum = 0;
            for (Bell bell : bells) sum += bell.hammers;
            return sum;
        }

        boolean isHole(int hole) {
            return 0 <= hole && hole < n;
        }

        boolean isPlace(int track, int hole) {
            return 0 <= track && track < tracks() && isHole(hole);
        }

        boolean isTune(int t) {
            return 0 <= t && t < 6 && !tunes.get(t).isEmpty();
        }

        int distance(int a, int b) {
            int steps = 0;
            while ((a + steps) % n != b && (b + steps) % n != a) steps++;
            return steps;
        }

        Bell bellOf(int track) {
            for (Bell bell : bells) {
                if (track < bell.first + bell.hammers) return bell;
            }
            throw new IllegalStateException();
        }

        int broken(int from, int to) {
            int sum = 0;
            for (int cell : pins.keySet()) {
                if (cell / 100 >= from && cell / 100 < to && pins.get(cell) >= l) sum++;
            }
            return sum;
        }

        int answer(String op, int[] a) {
            switch (op) {
                case "bell": return bell(a[0], a[1], a[2]);
                case "crack":
                    if (a[0] < 0 || a[0] >= bells.size() || bells.get(a[0]).cracked == (a[1] == 1)) return 0;
                    bells.get(a[0]).cracked = a[1] == 1;
                    return 1;
                case "holes":
                    if (a[0] < 8 || a[0] > 64) return 0;
                    n = a[0];
                    pins.clear();
                    return 1;
                case "rest": if (a[0] < 1 || a[0] > 8) return 0; r = a[0]; return 1;
                case "force": if (a[0] < 1 || a[0] > 999) return 0; f = a[0]; return 1;
                case "life": if (a[0] < 1 || a[0] > 10000) return 0; l = a[0]; return 1;
                case "feed":
                    if (tape.length() > 60) return -1;
                    for (int word : a) {
                        for (byte b : java.nio.ByteBuffer.allocate(4).putInt(word).array()) tape.append((char) (b & 255));
                    }
                    return tape.length();
                case "tune": return tune(a[0], a[1]);
                case "shift": return isTune(a[0]) ? shift(tunes.get(a[0])) : -101;
                case "set": return set(a[0], a[1], true);
                case "moves": return set(a[0], a[1], false);
                case "why": return isTune(a[0]) && isHole(a[1]) ? lay(tunes.get(a[0]), a[1], new ArrayList<>()) : -1;
                case "nearest": return nearest(a[0]);
                case "pin": return pin(a[0], a[1], a[2] == 1) ? 1 : 0;
                case "mend": {
                    Integer had = isPlace(a[0], a[1]) ? pins.replace(a[0] * 100 + a[1], 0) : null;
                    return had == null ? -1 : had;
                }
                case "turn": return turn(a[0], a[1]);
                case "read": return read(a[0], a[1]);
                case "octet": return a[0] < 0 || a[0] >= heard.length() ? -1 : heard.charAt(a[0]);
                case "strikes": return isPlace(a[0], a[1]) ? pins.getOrDefault(a[0] * 100 + a[1], -1) : -1;
                case "look": return look(a[0], a[1]);
                case "told": return told(a[0], a[1]);
                case "count": {
                    int[] all = {bells.size(), tracks(), n, r, f, l, pins.size(), broken(0, 99), tape.length(), moved};
                    return a[0] < 0 || a[0] > 9 ? -1 : all[a[0]];
                }
                default: throw new IllegalArgumentException(op);
            }
        }

        int bell(int pitch, int weight, int hammers) {
            if (pitch < 0 || pitch > 47 || weight < 1 || weight > 99 || hammers < 1 || hammers > 3) return -1;
            if (bells.size() == 12) return -1;
            for (Bell other : bells) {
                if (other.pitch == pitch) return -1;
            }
            Bell bell = new Bell();
            bell.pitch = pitch;
            bell.weight = weight;
            bell.hammers = hammers;
            bell.first = tracks();
            bells.add(bell);
            return bells.size() - 1;
        }

        int tune(int t, int size) {
            if (t < 0 || t > 5 || size < 0 || size > 60 || size > tape.length()) return -1;
            String text = tape.substring(0, size);
            tape = new StringBuilder();
            List<Unit> units = new ArrayList<>();
            int fault = faultOf(text, units);
            if (fault == 0) tunes.set(t, units);
            return fault;
        }

        /** Byte by byte, with what may come next: u a unit, n a note in ( ), s # or a digit, d a digit, l a length. */
        int faultOf(String text, List<Unit> units) {
            char state = 'u';
            boolean chord = false;
            Unit unit = new Unit();
            int letterAt = 0, step = 0, sum = 0;
            for (int i = 0; i < text.length(); i++) {
                char c = text.charAt(i);
                boolean letter = "cdefgab".indexOf(c) >= 0;
                if (state == 'u' && c == 'r') {
                    state = 'l';
                } else if (state == 'u' && c == '(') {
                    chord = true;
                    state = 'n';
                } else if ((state == 'u' || state == 'n') && letter) {
                    if (unit.pitches.size() == 4) return 200 + i;
                    letterAt = i;
                    step = new int[] {0, 2, 4, 5, 7, 9, 11}["cdefgab".indexOf(c)];
                    state = 's';
                } else if (state == 's' && c == '#') {
                    step++;
                    state = 'd';
                } else if ((state == 's' || state == 'd') && c >= '0' && c <= '3') {
                    int pitch = 12 * (c - '0') + step;
                    if (unit.pitches.contains(pitch)) return 300 + letterAt;
                    unit.pitches.add(pitch);
                    state = chord ? 'n' : 'l';
                } else if (state == 'n' && c == ')' && unit.pitches.size() >= 2) {
                    state = 'l';
                } else if (state == 'l' && c >= '1' && c <= '9') {
                    sum += c - '0';
                    if (sum > 64) return 400 + i;
                    unit.length = c - '0';
                    units.add(unit);
                    unit = new Unit();
                    chord = false;
                    state = 'u';
                } else {
                    return 100 + i;
                }
            }
            return state == 'u' && !units.isEmpty() ? 0 : 100 + text.length();
        }

        int wholeBell(int pitch) {
            for (int b = 0; b < bells.size(); b++) {
                if (bells.get(b).pitch == pitch && !bells.get(b).cracked) return b;
            }
            return -1;
        }

        int shift(List<Unit> tune) {
            int best = -100;
            for (int by = -24; by <= 24; by++) {
                boolean good = true;
                for (Unit unit : tune) {
                    for (int pitch : unit.pitches) good &= wholeBell(pitch + by) >= 0;
                }
                if (good && (best == -100 || Math.abs(by) <= Math.abs(best))) best = by;
            }
            return best;
        }

        int lay(List<Unit> tune, int hole, List<Stroke> strokes) {
            int by = shift(tune);
            if (by == -100) return 1;
            int length = 0;
            for (Unit unit : tune) length += unit.length;
            if (length > n) return 2;
            int at = hole;
            boolean heavy = false;
            for (Unit unit : tune) {
                int weight = 0;
                for (int pitch : unit.pitches) {
                    Stroke stroke = new Stroke();
                    stroke.bell = wholeBell(pitch + by);
                    stroke.hole = at;
                    strokes.add(stroke);
                    weight += bells.get(stroke.bell).weight;
                }
                heavy |= weight > f;
                at = (at + unit.length) % n;
            }
            if (heavy) return 3;
            List<List<Stroke>> byBell = new ArrayList<>();
            for (int b = 0; b < bells.size(); b++) {
                List<Stroke> its = new ArrayList<>();
                for (Stroke stroke : strokes) {
                    if (stroke.bell == b) its.add(stroke);
                }
                byBell.add(its);
            }
            for (List<Stroke> its : byBell) {
                if (its.size() > 12) return 4;
            }
            for (List<Stroke> its : byBell) {
                if (!new Search(this, its).run()) return 5;
            }
            return 0;
        }

        int set(int t, int hole, boolean forGood) {
            List<Stroke> strokes = new ArrayList<>();
            if (!isTune(t) || !isHole(hole) || lay(tunes.get(t), hole, strokes) != 0) return -1;
            TreeMap<Integer, Integer> then = new TreeMap<>();
            for (Stroke stroke : strokes) {
                int cell = 100 * (bells.get(stroke.bell).first + stroke.hammer) + stroke.hole;
                then.put(cell, pins.getOrDefault(cell, 0));
            }
            int changes = 0;
            for (int cell : pins.keySet()) changes += then.containsKey(cell) ? 0 : 1;
            for (int cell : then.keySet()) changes += pins.containsKey(cell) ? 0 : 1;
            if (forGood) {
                pins.clear();
                pins.putAll(then);
                moved += changes;
            }
            return changes;
        }

        int nearest(int hole) {
            int best = -1, fewest = Integer.MAX_VALUE;
            for (int t = 5; t >= 0; t--) {
                int changes = set(t, hole, false);
                if (changes != -1 && changes <= fewest) {
                    best = t;
                    fewest = changes;
                }
            }
            return best;
        }

        boolean pin(int track, int hole, boolean is) {
            int cell = track * 100 + hole;
            if (!isPlace(track, hole) || pins.containsKey(cell) == is) return false;
            if (!is) {
                pins.remove(cell);
                return true;
            }
            for (int other : pins.keySet()) {
                if (other / 100 == track && distance(other % 100, hole) < r) return false;
            }
            pins.put(cell, 0);
            return true;
        }

        int turn(int hole, int holes) {
            if (!isHole(hole) || holes < 1 || holes > 640) return -1;
            int sum = 0;
            for (int i = 0; i < holes; i++) {
                for (int cell : pins.keySet()) {
                    if (cell % 100 != (hole + i) % n || pins.get(cell) >= l) continue;
                    pins.put(cell, pins.get(cell) + 1);
                    if (!bellOf(cell / 100).cracked) sum++;
                }
            }
            return sum;
        }

        int read(int hole, int holes) {
            if (!isHole(hole) || holes < 1 || holes > n) return -1;
            List<String> sounds = new ArrayList<>();
            for (int i = 0; i < holes; i++) {
                TreeSet<Integer> pitches = new TreeSet<>();
                for (int cell : pins.keySet()) {
                    Bell bell = bellOf(cell / 100);
                    if (cell % 100 == (hole + i) % n && pins.get(cell) < l && !bell.cracked) pitches.add(bell.pitch);
                }
                String all = "";
                for (int pitch : pitches) all += NAMES[pitch % 12] + pitch / 12;
                sounds.add(pitches.size() > 1 ? "(" + all + ")" : all);
            }
            heard = "";
            int from = 0;
            while (from < holes) {
                int to = from + 1;
                while (to < holes && sounds.get(to).isEmpty()) to++;
                String sound = sounds.get(from).isEmpty() ? "r" : sounds.get(from);
                int length = to - from;
                while (length > 9) {
                    heard += sound + 9;
                    sound = "r";
                    length -= 9;
                }
                heard += sound + length;
                from = to;
            }
            return heard.length();
        }

        int look(int b, int what) {
            if (b < 0 || b >= bells.size() || what < 0 || what > 6) return -1;
            Bell bell = bells.get(b);
            int end = bell.first + bell.hammers;
            int standing = pins.subMap(100 * bell.first, 100 * end).size();
            return new int[] {bell.pitch, bell.weight, bell.hammers, bell.cracked ? 1 : 0, bell.first, standing,
                broken(bell.first, end)}[what];
        }

        int told(int t, int what) {
            if (t < 0 || t > 5 || what < 0 || what > 4) return -1;
            int length = 0;
            TreeSet<Integer> pitches = new TreeSet<>();
            int notes = 0;
            for (Unit unit : tunes.get(t)) {
                length += unit.length;
                notes += unit.pitches.size();
                pitches.addAll(unit.pitches);
            }
            int low = notes == 0 ? -1 : pitches.first();
            int high = notes == 0 ? -1 : pitches.last();
            return new int[] {tunes.get(t).size(), notes, length, low, high}[what];
        }
    }

    /** All choices of hammers for one bell's strokes, in the order of their rows. */
    private static final class Search {
        final Model m;
        final List<Stroke> strokes;
        final int[] row;
        final int[] sureLack;
        int[] best = null;
        int fewest = Integer.MAX_VALUE;

        Search(Model m, List<Stroke> strokes) {
            this.m = m;
            this.strokes = strokes;
            row = new int[strokes.size()];
            sureLack = new int[strokes.size() + 1];
            for (int i = strokes.size() - 1; i >= 0; i--) {
                int least = 1;
                for (int h = 0; h < m.bells.get(strokes.get(i).bell).hammers; h++) least = Math.min(least, lack(i, h));
                sureLack[i] = sureLack[i + 1] + least;
            }
        }

        boolean run() {
            go(0, 0);
            if (best == null) return false;
            for (int i = 0; i < best.length; i++) strokes.get(i).hammer = best[i];
            return true;
        }

        int lack(int i, int h) {
            Stroke stroke = strokes.get(i);
            return m.pins.containsKey(100 * (m.bells.get(stroke.bell).first + h) + stroke.hole) ? 0 : 1;
        }

        void go(int i, int lacking) {
            if (lacking + sureLack[i] >= fewest) return;
            if (i == row.length) {
                fewest = lacking;
                best = row.clone();
                return;
            }
            int hammers = m.bells.get(strokes.get(i).bell).hammers;
            for (int h = 0; h < hammers; h++) {
                boolean free = true;
                for (int j = 0; j < i; j++) {
                    free &= row[j] != h || m.distance(strokes.get(i).hole, strokes.get(j).hole) >= m.r;
                }
                if (!free) continue;
                row[i] = h;
                go(i + 1, lacking + lack(i, h));
            }
        }
    }
}
