import java.util.Arrays;

/**
 * A tower's chiming drum: bells, tunes told as texts, and the pins by which a
 * tune is set with the fewest pins moved. No call throws, and no call makes an
 * object: all rows are made with the tower and used again.
 */
public final class ChimeDrum {
    public static final int NONE = -1;

    private static final int TUNES = 6;
    private static final int TAPE_BYTES = 80;
    private static final int FEED_BYTES = 20;
    private static final int MOST_STEPS = 640;
    private static final int NO_SHIFT = -100;
    private static final int NO_TUNE = -101;

    private final Bells bells;
    private final Barrel barrel;
    private final Layout layout;
    private final Text text;
    private final Tune[] tunes;
    private final int[] tape;
    private Tune draft;
    private int tapeSize;
    private int lift;
    private int movedEver;

    public ChimeDrum() {
        bells = new Bells();
        barrel = new Barrel();
        layout = new Layout();
        text = new Text();
        tunes = new Tune[TUNES];
        for (int t = 0; t < TUNES; t++) {
            tunes[t] = new Tune();
        }
        draft = new Tune();
        tape = new int[TAPE_BYTES];
        tapeSize = 0;
        lift = 200;
        movedEver = 0;
    }

    public int bell(int pitch, int weight, int hammers) {
        boolean known = isWithin(pitch, 0, Bells.PITCHES - 1)
                && isWithin(weight, 1, 99)
                && isWithin(hammers, 1, Bells.MOST_HAMMERS);
        return known ? bells.hang(pitch, weight, hammers) : NONE;
    }

    public boolean crack(int b, boolean is) {
        if (!bells.has(b) || bells.cracked[b] == is) {
            return false;
        }
        bells.cracked[b] = is;
        return true;
    }

    public boolean holes(int n) {
        if (!isWithin(n, 8, Barrel.MOST_HOLES)) {
            return false;
        }
        barrel.ring = n;
        barrel.clear();
        return true;
    }

    public boolean rest(int r) {
        if (!isWithin(r, 1, 8)) {
            return false;
        }
        barrel.needed = r;
        return true;
    }

    public boolean force(int f) {
        if (!isWithin(f, 1, 999)) {
            return false;
        }
        lift = f;
        return true;
    }

    public boolean life(int l) {
        if (!isWithin(l, 1, 10000)) {
            return false;
        }
        barrel.borne = l;
        return true;
    }

    public int feed(int a, int b, int c, int d, int e) {
        if (tapeSize + FEED_BYTES > TAPE_BYTES) {
            return NONE;
        }
        feedWord(a);
        feedWord(b);
        feedWord(c);
        feedWord(d);
        feedWord(e);
        return tapeSize;
    }

    public int tune(int t, int n) {
        if (!isWithin(t, 0, TUNES - 1) || !isWithin(n, 0, Tune.MOST_BYTES) || n > tapeSize) {
            return NONE;
        }
        int fault = draft.take(tape, n);
        tapeSize = 0;
        if (fault == 0) {
            Tune spare = tunes[t];
            tunes[t] = draft;
            draft = spare;
        }
        return fault;
    }

    public int shift(int t) {
        return isTold(t) ? bells.bestShift(tunes[t]) : NO_TUNE;
    }

    public int set(int t, int hole) {
        int moved = movedBy(t, hole);
        if (moved != NONE) {
            barrel.keepOnly(layout.cells, layout.strokes);
            movedEver += moved;
        }
        return moved;
    }

    public int moves(int t, int hole) {
        return movedBy(t, hole);
    }

    public int why(int t, int hole) {
        if (!isTold(t) || !barrel.hasHole(hole)) {
            return NONE;
        }
        return layout.plan(tunes[t], hole, bells, barrel, lift);
    }

    public int nearest(int hole) {
        int best = NONE;
        int fewest = 0;
        for (int t = 0; t < TUNES; t++) {
            int moved = movedBy(t, hole);
            if (moved != NONE && (best == NONE || moved < fewest)) {
                best = t;
                fewest = moved;
            }
        }
        return best;
    }

    public boolean pin(int track, int hole, boolean is) {
        if (!isPlace(track, hole) || barrel.hasPin(track, hole) == is) {
            return false;
        }
        if (!is) {
            barrel.takeOut(track, hole);
            return true;
        }
        if (barrel.isCrowded(track, hole)) {
            return false;
        }
        barrel.putIn(track, hole);
        return true;
    }

    public int mend(int track, int hole) {
        int had = strikesAt(track, hole);
        if (had != NONE) {
            barrel.made[Barrel.cell(track, hole)] = 0;
        }
        return had;
    }

    public int turn(int hole, int n) {
        if (!barrel.hasHole(hole) || !isWithin(n, 1, MOST_STEPS)) {
            return NONE;
        }
        int heard = 0;
        int at = hole;
        for (int step = 0; step < n; step++) {
            heard += barrel.strikeHole(at, bells);
            at = barrel.next(at);
        }
        return heard;
    }

    public int read(int hole, int n) {
        if (!barrel.hasHole(hole) || !isWithin(n, 1, barrel.ring)) {
            return NONE;
        }
        text.size = 0;
        long sound = barrel.soundAt(hole, bells);
        int length = 1;
        int at = hole;
        for (int step = 1; step < n; step++) {
            at = barrel.next(at);
            long here = barrel.soundAt(at, bells);
            if (here != 0) {
                text.addUnit(sound, length);
                sound = here;
                length = 0;
            }
            length++;
        }
        text.addUnit(sound, length);
        return text.size;
    }

    public int octet(int i) {
        return isWithin(i, 0, text.size - 1) ? text.bytes[i] : NONE;
    }

    public int strikes(int track, int hole) {
        return strikesAt(track, hole);
    }

    public int look(int b, int what) {
        if (!bells.has(b)) {
            return NONE;
        }
        int first = bells.firstTrack[b];
        int end = first + bells.hammers[b];
        switch (what) {
            case 0: return bells.pitch[b];
            case 1: return bells.weight[b];
            case 2: return bells.hammers[b];
            case 3: return bells.cracked[b] ? 1 : 0;
            case 4: return first;
            case 5: return barrel.pinsWith(first, end, 0);
            case 6: return barrel.pinsWith(first, end, barrel.borne);
            default: return NONE;
        }
    }

    public int told(int t, int what) {
        if (!isWithin(t, 0, TUNES - 1)) {
            return NONE;
        }
        Tune asked = tunes[t];
        switch (what) {
            case 0: return asked.units;
            case 1: return asked.notes;
            case 2: return asked.span;
            case 3: return asked.lowest();
            case 4: return asked.highest();
            default: return NONE;
        }
    }

    public int count(int what) {
        switch (what) {
            case 0: return bells.size;
            case 1: return bells.tracks;
            case 2: return barrel.ring;
            case 3: return barrel.needed;
            case 4: return lift;
            case 5: return barrel.borne;
            case 6: return barrel.pins;
            case 7: return barrel.pinsWith(0, bells.tracks, barrel.borne);
            case 8: return tapeSize;
            case 9: return movedEver;
            default: return NONE;
        }
    }

    private static boolean isWithin(int x, int low, int high) {
        return x >= low && x <= high;
    }

    private boolean isTold(int t) {
        return isWithin(t, 0, TUNES - 1) && tunes[t].units > 0;
    }

    private boolean isPlace(int track, int hole) {
        return isWithin(track, 0, bells.tracks - 1) && barrel.hasHole(hole);
    }

    private int strikesAt(int track, int hole) {
        return isPlace(track, hole) ? barrel.made[Barrel.cell(track, hole)] : NONE;
    }

    private void feedWord(int word) {
        for (int down = 24; down >= 0 && tapeSize < TAPE_BYTES; down -= 8) {
            tape[tapeSize] = (word >> down) & 255;
            tapeSize++;
        }
    }

    /** Leaves the plan of the tune in the layout, so that set() can carry it out. */
    private int movedBy(int t, int hole) {
        if (!isTold(t) || !barrel.hasHole(hole)) {
            return NONE;
        }
        if (layout.plan(tunes[t], hole, bells, barrel, lift) != Layout.FITS) {
            return NONE;
        }
        int kept = layout.strokes - layout.lacking;
        return barrel.pins - kept + layout.lacking;
    }

    /** The bells, with their hammers' tracks. */
    private static final class Bells {
        static final int MOST = 12;
        static final int MOST_HAMMERS = 3;
        static final int MOST_TRACKS = 36;
        static final int PITCHES = 48;
        static final int FARTHEST_SHIFT = 24;

        final int[] pitch = new int[MOST];
        final int[] weight = new int[MOST];
        final int[] hammers = new int[MOST];
        final int[] firstTrack = new int[MOST];
        final boolean[] cracked = new boolean[MOST];
        final int[] bellOfTrack = new int[MOST_TRACKS];
        final int[] bellOfPitch = new int[PITCHES];
        int size;
        int tracks;

        Bells() {
            Arrays.fill(bellOfPitch, NONE);
        }

        boolean has(int b) {
            return b >= 0 && b < size;
        }

        int hang(int itsPitch, int itsWeight, int itsHammers) {
            if (size >= MOST || bellOfPitch[itsPitch] != NONE) {
                return NONE;
            }
            int b = size;
            pitch[b] = itsPitch;
            weight[b] = itsWeight;
            hammers[b] = itsHammers;
            firstTrack[b] = tracks;
            for (int h = 0; h < itsHammers && tracks < MOST_TRACKS; h++) {
                bellOfTrack[tracks] = b;
                tracks++;
            }
            bellOfPitch[itsPitch] = b;
            size++;
            return b;
        }

        /** The bell of that pitch if it is there and not cracked. */
        int wholeAt(int wantedPitch) {
            if (wantedPitch < 0 || wantedPitch >= PITCHES) {
                return NONE;
            }
            int b = bellOfPitch[wantedPitch];
            return b == NONE || cracked[b] ? NONE : b;
        }

        int bestShift(Tune tune) {
            for (int far = 0; far <= FARTHEST_SHIFT; far++) {
                if (canPlay(tune, far)) {
                    return far;
                }
                if (canPlay(tune, -far)) {
                    return -far;
                }
            }
            return NO_SHIFT;
        }

        private boolean canPlay(Tune tune, int by) {
            for (int i = 0; i < tune.notes; i++) {
                if (wholeAt(tune.pitch[i] + by) == NONE) {
                    return false;
                }
            }
            return true;
        }
    }

    /** The drum itself: a ring of holes for each track, and the pins in them. */
    private static final class Barrel {
        static final int MOST_HOLES = 64;

        /** Strikes that the pin of a cell has made; NONE where no pin stands. */
        final int[] made = new int[Bells.MOST_TRACKS * MOST_HOLES];
        private final int[] kept = new int[Tune.MOST_NOTES];
        int ring = 32;
        int needed = 3;
        int borne = 1000;
        int pins;

        Barrel() {
            Arrays.fill(made, NONE);
        }

        static int cell(int track, int hole) {
            return track * MOST_HOLES + hole;
        }

        boolean hasHole(int hole) {
            return hole >= 0 && hole < ring;
        }

        boolean hasPin(int track, int hole) {
            return made[cell(track, hole)] != NONE;
        }

        int next(int hole) {
            return hole + 1 < ring ? hole + 1 : 0;
        }

        boolean isTooNear(int one, int other) {
            int way = one < other ? other - one : one - other;
            return way < needed || ring - way < needed;
        }

        void clear() {
            Arrays.fill(made, NONE);
            pins = 0;
        }

        void putIn(int track, int hole) {
            made[cell(track, hole)] = 0;
            pins++;
        }

        void takeOut(int track, int hole) {
            made[cell(track, hole)] = NONE;
            pins--;
        }

        boolean isCrowded(int track, int hole) {
            for (int other = 0; other < ring; other++) {
                if (other != hole && hasPin(track, other) && isTooNear(hole, other)) {
                    return true;
                }
            }
            return false;
        }

        /** Pins of the tracks from first up to end that have made so many strikes or more. */
        int pinsWith(int first, int end, int strikesMade) {
            int found = 0;
            for (int track = first; track < end; track++) {
                for (int hole = 0; hole < ring; hole++) {
                    if (made[cell(track, hole)] >= strikesMade) {
                        found++;
                    }
                }
            }
            return found;
        }

        /** Pins stand in the wanted cells alone; those that stood there keep their strikes. */
        void keepOnly(int[] wanted, int size) {
            for (int i = 0; i < size; i++) {
                kept[i] = Math.max(0, made[wanted[i]]);
            }
            clear();
            for (int i = 0; i < size; i++) {
                made[wanted[i]] = kept[i];
            }
            pins = size;
        }

        private boolean willStrike(int track, int hole) {
            return hasPin(track, hole) && made[cell(track, hole)] < borne;
        }

        /** The pins of a hole strike: how many strikes are heard. */
        int strikeHole(int hole, Bells bells) {
            int heard = 0;
            for (int track = 0; track < bells.tracks; track++) {
                if (willStrike(track, hole)) {
                    made[cell(track, hole)]++;
                    heard += bells.cracked[bells.bellOfTrack[track]] ? 0 : 1;
                }
            }
            return heard;
        }

        /** What would be heard at a hole: a bit for each pitch, so that a bell counts once. */
        long soundAt(int hole, Bells bells) {
            long sound = 0;
            for (int track = 0; track < bells.tracks; track++) {
                int b = bells.bellOfTrack[track];
                if (!bells.cracked[b] && willStrike(track, hole)) {
                    sound |= 1L << bells.pitch[b];
                }
            }
            return sound;
        }
    }

    /** A tune, and how its text is taken in. */
    private static final class Tune {
        static final int MOST_BYTES = 60;
        static final int MOST_UNITS = MOST_BYTES / 2;
        static final int MOST_NOTES = MOST_BYTES / 2;
        private static final int MOST_SPAN = 64;
        private static final int MOST_IN_CHORD = 4;
        private static final int END = -1;
        private static final int MISPLACED = 1;
        private static final int FIFTH_NOTE = 2;
        private static final int SAME_PITCH = 3;
        private static final int TOO_LONG = 4;
        /** Of the letters a to g. */
        private static final int[] STEPS = {9, 11, 0, 2, 4, 5, 7};

        final int[] length = new int[MOST_UNITS];
        final int[] pitch = new int[MOST_NOTES];
        final int[] unitOfNote = new int[MOST_NOTES];
        int units;
        int notes;
        int span;
        private int place;
        private int fault;

        /** Takes the first n bytes as its text: 0, or the fault and its place. */
        int take(int[] bytes, int n) {
            units = 0;
            notes = 0;
            span = 0;
            place = 0;
            fault = 0;
            for (int u = 0; u < MOST_UNITS && fault == 0 && (u == 0 || place < n); u++) {
                takeUnit(bytes, n);
            }
            return fault;
        }

        int lowest() {
            int least = NONE;
            for (int i = 0; i < notes; i++) {
                least = i == 0 ? pitch[i] : Math.min(least, pitch[i]);
            }
            return least;
        }

        int highest() {
            int most = NONE;
            for (int i = 0; i < notes; i++) {
                most = Math.max(most, pitch[i]);
            }
            return most;
        }

        private void takeUnit(int[] bytes, int n) {
            int first = byteAt(bytes, n);
            if (first == 'r') {
                place++;
            } else if (first == '(') {
                place++;
                takeChord(bytes, n);
            } else {
                takeNote(bytes, n);
            }
            if (fault == 0) {
                takeLength(bytes, n);
            }
        }

        private void takeChord(int[] bytes, int n) {
            for (int i = 0; i <= MOST_IN_CHORD && fault == 0; i++) {
                int here = byteAt(bytes, n);
                if (i >= 2 && here == ')') {
                    place++;
                    return;
                }
                if (i == MOST_IN_CHORD) {
                    blame(isLetter(here) ? FIFTH_NOTE : MISPLACED, place);
                } else {
                    takeNote(bytes, n);
                }
            }
        }

        private void takeNote(int[] bytes, int n) {
            int letterPlace = place;
            int letter = byteAt(bytes, n);
            if (!isLetter(letter) || notes >= MOST_NOTES) {
                blame(MISPLACED, place);
                return;
            }
            place++;
            int step = STEPS[letter - 'a'];
            if (byteAt(bytes, n) == '#') {
                step++;
                place++;
            }
            int digit = byteAt(bytes, n);
            if (digit < '0' || digit > '3') {
                blame(MISPLACED, place);
                return;
            }
            place++;
            keepNote(12 * (digit - '0') + step, letterPlace);
        }

        private void keepNote(int newPitch, int letterPlace) {
            for (int i = notes - 1; i >= 0 && unitOfNote[i] == units; i--) {
                if (pitch[i] == newPitch) {
                    blame(SAME_PITCH, letterPlace);
                }
            }
            pitch[notes] = newPitch;
            unitOfNote[notes] = units;
            notes++;
        }

        private void takeLength(int[] bytes, int n) {
            int digit = byteAt(bytes, n);
            if (digit < '1' || digit > '9') {
                blame(MISPLACED, place);
                return;
            }
            span += digit - '0';
            if (span > MOST_SPAN) {
                blame(TOO_LONG, place);
                return;
            }
            length[units] = digit - '0';
            units++;
            place++;
        }

        private int byteAt(int[] bytes, int n) {
            return place < n && place < bytes.length ? bytes[place] : END;
        }

        private static boolean isLetter(int b) {
            return b >= 'a' && b <= 'g';
        }

        private void blame(int number, int where) {
            fault = 100 * number + where;
        }
    }

    /** A tune laid out at a hole: whether it can be set there, and the cells its strokes want. */
    private static final class Layout {
        static final int FITS = 0;
        private static final int UNSHIFTABLE = 1;
        private static final int TOO_LONG = 2;
        private static final int TOO_HEAVY = 3;
        private static final int TOO_OFTEN = 4;
        private static final int TOO_FEW_HAMMERS = 5;

        /** The cell of the barrel that each stroke wants. */
        final int[] cells = new int[Tune.MOST_NOTES];
        private final int[] bellOfStroke = new int[Tune.MOST_NOTES];
        private final int[] holeOfStroke = new int[Tune.MOST_NOTES];
        private final int[] members = new int[HammerChoice.MOST_STROKES];
        private final HammerChoice choice = new HammerChoice();
        int strokes;
        /** How many strokes have no pin in their cell. */
        int lacking;

        /** FITS, or the first reason why the tune can't be set. */
        int plan(Tune tune, int hole, Bells bells, Barrel barrel, int lift) {
            int by = bells.bestShift(tune);
            if (by == NO_SHIFT) {
                return UNSHIFTABLE;
            }
            if (tune.span > barrel.ring) {
                return TOO_LONG;
            }
            giveStrokesBells(tune, by, bells);
            giveStrokesHoles(tune, hole, barrel);
            if (isTooHeavy(tune, bells, lift)) {
                return TOO_HEAVY;
            }
            if (isTooOften(bells)) {
                return TOO_OFTEN;
            }
            return giveStrokesHammers(bells, barrel) ? FITS : TOO_FEW_HAMMERS;
        }

        private void giveStrokesBells(Tune tune, int by, Bells bells) {
            strokes = tune.notes;
            for (int i = 0; i < strokes; i++) {
                bellOfStroke[i] = bells.wholeAt(tune.pitch[i] + by);
            }
        }

        private void giveStrokesHoles(Tune tune, int hole, Barrel barrel) {
            int at = hole;
            int unit = 0;
            for (int i = 0; i < strokes; i++) {
                for (; unit < tune.unitOfNote[i]; unit++) {
                    at += tune.length[unit];
                }
                holeOfStroke[i] = at < barrel.ring ? at : at - barrel.ring;
            }
        }

        private boolean isTooHeavy(Tune tune, Bells bells, int lift) {
            int together = 0;
            for (int i = 0; i < strokes; i++) {
                if (i > 0 && tune.unitOfNote[i] != tune.unitOfNote[i - 1]) {
                    together = 0;
                }
                together += bells.weight[bellOfStroke[i]];
                if (together > lift) {
                    return true;
                }
            }
            return false;
        }

        private boolean isTooOften(Bells bells) {
            for (int b = 0; b < bells.size; b++) {
                int itsStrokes = 0;
                for (int i = 0; i < strokes; i++) {
                    itsStrokes += bellOfStroke[i] == b ? 1 : 0;
                }
                if (itsStrokes > HammerChoice.MOST_STROKES) {
                    return true;
                }
            }
            return false;
        }

        /** The bells don't touch one another's hammers, so the best of each makes the best of all. */
        private boolean giveStrokesHammers(Bells bells, Barrel barrel) {
            lacking = 0;
            for (int b = 0; b < bells.size; b++) {
                gather(b, bells, barrel);
                int itsLack = choice.choose(barrel);
                if (itsLack >= HammerChoice.IMPOSSIBLE) {
                    return false;
                }
                lacking += itsLack;
                for (int k = 0; k < choice.strokes; k++) {
                    int i = members[k];
                    cells[i] = Barrel.cell(bells.firstTrack[b] + choice.hammer[k], holeOfStroke[i]);
                }
            }
            return true;
        }

        private void gather(int b, Bells bells, Barrel barrel) {
            choice.begin(bells.hammers[b]);
            for (int i = 0; i < strokes; i++) {
                if (bellOfStroke[i] == b && choice.strokes < HammerChoice.MOST_STROKES) {
                    members[choice.strokes] = i;
                    choice.add(holeOfStroke[i], bells.firstTrack[b], barrel);
                }
            }
        }
    }

    /**
     * Hammers for the strokes of one bell: fewest strokes without a pin, of like ones the least row.
     *
     * A stroke that is too near to one as many strokes away (round the ring) as there are hammers is
     * too near to all between, and then no choice is good. Else a stroke is too near to the two before
     * it and the two behind it at most. So what the hammers of earlier strokes mean for later ones is
     * told whole by those of strokes 0 and 1 (which come round again) and of the last two strokes. That
     * is a state: four digits of base 3, the hammers of stroke 0, of stroke 1, of the last but one and
     * of the last; the latter two are 0 while they would be strokes 0 and 1.
     */
    private static final class HammerChoice {
        static final int MOST_STROKES = 12;
        static final int IMPOSSIBLE = 1000;
        private static final int STATES = 81;
        /** What the digit that tells the hammer of a stroke is worth just behind that stroke. */
        private static final int[] DIGITS = {27, 9, 1, 1, 1, 1, 1, 1, 1, 1, 1, 1};

        final int[] hammer = new int[MOST_STROKES];
        int strokes;
        private int hammers;
        private final int[] hole = new int[MOST_STROKES];
        /** Of each stroke a bit for each hammer that has no pin there. */
        private final int[] lacks = new int[MOST_STROKES];
        /** Of each stroke a bit for each earlier stroke that is too near. */
        private final int[] clashes = new int[MOST_STROKES];
        /** By stroke and state: the fewest pins lacking from the stroke on, and the state that its best hammer leads to. */
        private final int[] fewest = new int[MOST_STROKES * STATES];
        private final int[] bestState = new int[MOST_STROKES * STATES];

        void begin(int itsHammers) {
            hammers = itsHammers;
            strokes = 0;
        }

        void add(int itsHole, int firstTrack, Barrel barrel) {
            int lack = 0;
            for (int h = 0; h < hammers; h++) {
                if (!barrel.hasPin(firstTrack + h, itsHole)) {
                    lack |= 1 << h;
                }
            }
            hole[strokes] = itsHole;
            lacks[strokes] = lack;
            strokes++;
        }

        /** How many strokes lack a pin by the best choice, which is left in hammer; or IMPOSSIBLE. */
        int choose(Barrel barrel) {
            if (strokes == 0) {
                return 0;
            }
            if (!findClashes(barrel)) {
                return IMPOSSIBLE;
            }
            for (int i = strokes - 1; i >= 0; i--) {
                decideStroke(i);
            }
            if (fewest[0] < IMPOSSIBLE) {
                followBest();
            }
            return fewest[0];
        }

        /** False if some strokes stand too near for any choice. */
        private boolean findClashes(Barrel barrel) {
            for (int i = 0; i < strokes; i++) {
                clashes[i] = 0;
                for (int j = 0; j < i; j++) {
                    if (barrel.isTooNear(hole[i], hole[j])) {
                        clashes[i] |= 1 << j;
                        if (Math.min(i - j, strokes - i + j) >= hammers) {
                            return false;
                        }
                    }
                }
            }
            return true;
        }

        private void decideStroke(int i) {
            int firsts = i > 0 ? hammers : 1;
            int seconds = i > 1 ? hammers : 1;
            int lastsButOne = i > 3 ? hammers : 1;
            int lasts = i > 2 ? hammers : 1;
            for (int a = 0; a < firsts; a++) {
                for (int b = 0; b < seconds; b++) {
                    for (int x = 0; x < lastsButOne; x++) {
                        for (int y = 0; y < lasts; y++) {
                            int state = 27 * a + 9 * b + 3 * x + y;
                            decide(i, state, busyHammers(i, state));
                        }
                    }
                }
            }
        }

        /** A bit for each hammer that an earlier stroke too near to stroke i has. */
        private int busyHammers(int i, int state) {
            int near = clashes[i];
            int busy = 0;
            if ((near & 1) != 0) {
                busy |= 1 << (state / 27);
            }
            if ((near & 2) != 0) {
                busy |= 1 << (state / 9 % 3);
            }
            if (i > 3 && ((near >> (i - 2)) & 1) != 0) {
                busy |= 1 << (state / 3 % 3);
            }
            if (i > 2 && ((near >> (i - 1)) & 1) != 0) {
                busy |= 1 << (state % 3);
            }
            return busy;
        }

        private void decide(int i, int state, int busy) {
            int least = IMPOSSIBLE;
            int best = state;
            int kept = i < 2 ? state : state / 9 * 9 + state % 3 * 3;
            for (int h = 0; h < hammers; h++) {
                if (((busy >> h) & 1) == 0) {
                    int then = kept + DIGITS[i] * h;
                    int lack = (lacks[i] >> h) & 1;
                    if (i + 1 < strokes) {
                        lack += fewest[(i + 1) * STATES + then];
                    }
                    if (lack < least) {
                        least = lack;
                        best = then;
                    }
                }
            }
            fewest[i * STATES + state] = least;
            bestState[i * STATES + state] = best;
        }

        private void followBest() {
            int state = 0;
            for (int i = 0; i < strokes; i++) {
                state = bestState[i * STATES + state];
                hammer[i] = hammerOf(i, state);
            }
        }

        /** The hammer of stroke i, told by the state just behind it. */
        private static int hammerOf(int i, int state) {
            if (i == 0) {
                return state / 27;
            }
            return i == 1 ? state / 9 % 3 : state % 3;
        }
    }

    /** The text that is read back. */
    private static final class Text {
        /** 64 holes, each with ( ) and a length and twelve notes of three bytes. */
        private static final int MOST_BYTES = 64 * 39;
        private static final int LONGEST = 9;
        private static final String LETTERS = "ccddeffggaab";
        private static final String SHARPS = " # #  # # # ";

        final int[] bytes = new int[MOST_BYTES];
        int size;

        void addUnit(long sound, int length) {
            if (sound == 0) {
                add('r');
            } else if ((sound & (sound - 1)) == 0) {
                addNotes(sound);
            } else {
                add('(');
                addNotes(sound);
                add(')');
            }
            add('0' + Math.min(length, LONGEST));
            for (int left = length - LONGEST; left > 0; left -= LONGEST) {
                add('r');
                add('0' + Math.min(left, LONGEST));
            }
        }

        private void addNotes(long sound) {
            for (int pitch = 0; pitch < Bells.PITCHES; pitch++) {
                if (((sound >> pitch) & 1) != 0) {
                    int step = pitch % 12;
                    add(LETTERS.charAt(step));
                    if (SHARPS.charAt(step) == '#') {
                        add('#');
                    }
                    add('0' + pitch / 12);
                }
            }
        }

        private void add(int b) {
            if (size < MOST_BYTES) {
                bytes[size] = b;
                size++;
            }
        }
    }
}
