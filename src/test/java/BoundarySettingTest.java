/** The edges of shifts, of setting a tune, of what stands against it, and of the nearest tune. */
public final class BoundarySettingTest extends Check {

    public static void main(String[] args) {
        shiftsUpToTwentyFour();
        shiftsDownToTwentyFour();
        shiftNearestToNought();
        shiftOfTwoAbove();
        shiftOfEachPitch();
        shiftWithoutCracked();
        shiftBeyondAllPitches();
        shiftOfRests();
        setByTheShift();
        firstUnitAtThatHole();
        unitsRoundTheRing();
        lengthsNotAboveN();
        lengthsAtTheirMost();
        hammersNeedRest();
        hammersNeedRestRoundTheRing();
        hammersOfOneStroke();
        twoAndThreeHammers();
        hammersInAFullRing();
        forceAtAHole();
        forceOfEachUnit();
        forceAtFirst();
        forceAtItsLeast();
        twelveStrokes();
        twelveStrokesOfEachBell();
        firstReasonThatHolds();
        noSuchOnes();
        bestHasFewestLacking();
        bestCountsBrokenPins();
        bestIsTheLeastRow();
        bestGoesInTheOrderOfUnits();
        bestLooksAhead();
        bestOfTwelveStrokes();
        threeSideBySide();
        threeSideBySideRoundTheRing();
        fourSideBySide();
        pinsOutAndIn();
        othersStayAsTheyAre();
        restsTakeAllOut();
        movesIsAsSet();
        nearestHasFewest();
        nearestOfLikeOnes();
        nearestThatCanBeSet();
        end();
    }

    private static Tower towerOf(int... pitches) {
        Tower x = new Tower();
        for (int pitch : pitches) {
            x.bell(pitch, 1, 1);
        }
        return x;
    }

    private static int shiftOf(String text, int... pitches) {
        Tower x = towerOf(pitches);
        x.tell(0, text);
        return x.shift(0);
    }

    private static void shiftsUpToTwentyFour() {
        sentence("A SHIFT (-24 to 24)");
        due("23 up", 23, shiftOf("c01", 23));
        due("24 up", 24, shiftOf("c01", 24));
        due("25 up", -100, shiftOf("c01", 25));
        due("23 up to the highest", 23, shiftOf("c21", 47));
        due("24 up to the highest", 24, shiftOf("b11", 47));
        due("25 up to the highest", -100, shiftOf("a#11", 47));
        due("47 up", -100, shiftOf("c01", 47));
        Tower x = towerOf(25);
        x.tell(0, "c01");
        due("25 up: no shift", 1, x.why(0, 0));
        due("25 up: set", NONE, x.set(0, 0));
        x.tell(0, "c#01");
        due("24 up: set", 1, x.set(0, 0));
        due("24 up: pins", "0:0=0", x.pins());
    }

    private static void shiftsDownToTwentyFour() {
        sentence("A SHIFT (-24 to 24) of a TUNE is good");
        due("23 down", -23, shiftOf("b11", 0));
        due("24 down", -24, shiftOf("c21", 0));
        due("25 down", -100, shiftOf("c#21", 0));
        due("24 down from the highest", -24, shiftOf("b31", 23));
        due("25 down from the highest", -100, shiftOf("b31", 22));
        due("24 down from 48", -24, shiftOf("b#31", 24));
        due("25 down from 48", -100, shiftOf("b#31", 23));
        Tower x = towerOf(0);
        x.tell(0, "c#21");
        due("25 down: no shift", 1, x.why(0, 0));
        x.tell(0, "c21");
        due("24 down: set", 1, x.set(0, 31));
        due("24 down: pins", "0:31=0", x.pins());
    }

    private static void shiftNearestToNought() {
        sentence("THE SHIFT: the good one nearest to 0");
        for (int far = 1; far <= 22; far++) {
            due("below is nearer", -far, shiftOf("c21", 24 - far, 24 + far + 1));
            due("above is nearer", far, shiftOf("c21", 24 - far - 1, 24 + far));
            due("it is there", 0, shiftOf("c21", 24 - far, 24 + far, 24));
        }
    }

    private static void shiftOfTwoAbove() {
        sentence("of two the one above 0");
        for (int far = 1; far <= 23; far++) {
            due("both are as far", far, shiftOf("c21", 24 - far, 24 + far));
            due("both are as far", far, shiftOf("c21", 24 + far, 24 - far));
        }
        due("both are as far, two notes", 2, shiftOf("c21e21", 22, 26, 30));
    }

    private static void shiftOfEachPitch() {
        sentence("if each PITCH of it and the SHIFT together is that of a BELL");
        due("both", 1, shiftOf("c01d01", 1, 3));
        due("the first lacks", -100, shiftOf("c01d01", 2));
        due("the last lacks", -100, shiftOf("c01d01", 0));
        due("the first lacks where the last is", -100, shiftOf("c01d01e01", 2, 4));
        due("one between lacks", -100, shiftOf("c01d01e01", 0, 4));
        due("the last in ( ) lacks", -100, shiftOf("(c0d0e0f0)1", 0, 2, 4));
        due("the last in ( )", 0, shiftOf("(c0d0e0f0)1", 0, 2, 4, 5));
        due("farther, but all", 12, shiftOf("c01d01e01", 0, 2, 12, 14, 16));
        due("all on one bell", 7, shiftOf("c01c01r9c01", 7));
    }

    private static void shiftWithoutCracked() {
        sentence("that of a BELL that is not CRACKED");
        Tower x = towerOf(24, 25, 20);
        x.tell(0, "c21");
        due("whole", 0, x.shift(0));
        x.crack(0, true);
        due("cracked", 1, x.shift(0));
        x.crack(1, true);
        due("both cracked", -4, x.shift(0));
        x.crack(2, true);
        due("all cracked", -100, x.shift(0));
        due("why", 1, x.why(0, 0));
        x.crack(1, false);
        due("recast", 1, x.shift(0));
        x.crack(0, false);
        due("recast", 0, x.shift(0));
    }

    private static void shiftBeyondAllPitches() {
        sentence("each PITCH of it and the SHIFT together");
        due("from end to end", 0, shiftOf("c01b31", 0, 47));
        due("the lowest and 48", -100, shiftOf("c01b#31", 0, 47));
        due("1 and 48", -1, shiftOf("c#01b#31", 0, 47));
        due("48 alone", -1, shiftOf("b#31", 47));
        due("48 by itself is no bell's", -100, shiftOf("b#31", 0));
        due("below the lowest", -100, shiftOf("c01d01", 47, 46));
        due("no bells", -100, shiftOf("c01"));
    }

    private static void shiftOfRests() {
        sentence("-100: there is none; -101: no such TUNE");
        Tower x = new Tower();
        due("never told", -101, x.shift(0));
        x.tell(0, "r1");
        due("rests, no bells", 0, x.shift(0));
        due("rests can be set", 0, x.set(0, 0));
        x.bell(30, 1, 1);
        x.crack(0, true);
        due("rests, no whole bells", 0, x.shift(0));
        x.tell(5, "c01");
        due("none", -100, x.shift(5));
        due("tune 6", -101, x.shift(6));
        due("tune -1", -101, x.shift(-1));
        due("least int", -101, x.shift(Integer.MIN_VALUE));
        due("greatest int", -101, x.shift(Integer.MAX_VALUE));
    }

    private static void setByTheShift() {
        sentence("TO SET a TUNE at a HOLE: by THE SHIFT");
        Tower x = towerOf(22, 26, 30);
        x.tell(0, "c21e21");
        due("of two the one above", 2, x.set(0, 0));
        due("pins", "1:0=0 2:1=0", x.pins());
        x.crack(2, true);
        due("below, since one is cracked", 4, x.set(0, 0));
        due("pins", "0:0=0 1:1=0", x.pins());
    }

    private static void firstUnitAtThatHole() {
        sentence("its first UNIT is at that HOLE, each other one so many HOLES behind the one before as that one's LENGTH is");
        for (int length = 1; length <= 9; length++) {
            Tower x = towerOf(0, 2);
            x.tell(0, "c0" + length + "d01");
            due("set", 2, x.set(0, 5));
            due("length " + length, "0:5=0 1:" + (5 + length) + "=0", x.pins());
            x.tell(0, "r" + length + "d01");
            due("the first one is out", 1, x.set(0, 5));
            due("rest of length " + length, "1:" + (5 + length) + "=0", x.pins());
        }
        Tower x = towerOf(0, 2, 4);
        x.tell(0, "(c0e0)3r2d04e01");
        x.set(0, 1);
        due("unit by unit", "0:1=0 1:6=0 2:1=0 2:10=0", x.pins());
    }

    private static void unitsRoundTheRing() {
        sentence("(round the ring)");
        for (int n : new int[] {8, 32, 64}) {
            due("up to the last", "0:" + (n - 5) + "=0 1:" + (n - 3) + "=0 2:" + (n - 1) + "=0", threeSetAt(n - 5, n));
            due("the last one round", "0:" + (n - 4) + "=0 1:" + (n - 2) + "=0 2:0=0", threeSetAt(n - 4, n));
            due("two round", "0:" + (n - 2) + "=0 1:0=0 2:2=0", threeSetAt(n - 2, n));
            due("from the last one", "0:" + (n - 1) + "=0 1:1=0 2:3=0", threeSetAt(n - 1, n));
            due("from 0", "0:0=0 1:2=0 2:4=0", threeSetAt(0, n));
        }
    }

    /** The pins of three strokes, two holes from one to the next. */
    private static String threeSetAt(int hole, int n) {
        Tower x = towerOf(0, 2, 4);
        x.holes(n);
        x.tell(0, "c02d02e04");
        x.set(0, hole);
        return x.pins();
    }

    private static void lengthsNotAboveN() {
        sentence("LENGTHS together are not above N");
        Tower x = towerOf(0);
        x.holes(8);
        String[] texts = {"c07", "c08", "c09", "r8", "r9", "c04c04", "c04c05", "c01r7", "c01r8"};
        int[] whys = {0, 0, 2, 0, 2, 0, 2, 0, 2};
        for (int i = 0; i < texts.length; i++) {
            x.tell(0, texts[i]);
            for (int hole : new int[] {0, 3, 7}) {
                due(texts[i] + " in 8 holes", whys[i], x.why(0, hole));
                due("moves", whys[i] == 0, x.moves(0, hole) != NONE);
                due("nearest", whys[i] == 0 ? 0 : NONE, x.nearest(hole));
                due("set", whys[i] == 0, x.set(0, hole) != NONE);
            }
        }
    }

    private static void lengthsAtTheirMost() {
        sentence("LENGTHS together are not above N");
        Tower x = towerOf(0);
        x.tell(0, "r9".repeat(7) + "c01");
        for (int n : new int[] {8, 32, 62, 63}) {
            x.holes(n);
            due("64 in " + n, 2, x.why(0, n - 1));
            due("64 in " + n, NONE, x.set(0, n - 1));
        }
        x.holes(64);
        for (int hole : new int[] {0, 1, 2, 63}) {
            due("64 in 64", 0, x.why(0, hole));
            x.set(0, hole);
            due("its last hole", "0:" + (hole + 63) % 64 + "=0", x.pins());
        }
        x.tell(1, "r9".repeat(7));
        x.holes(63);
        due("63 in 63", 0, x.why(1, 62));
        x.holes(62);
        due("63 in 62", 2, x.why(1, 61));
    }

    private static void hammersNeedRest() {
        sentence("no two STROKES of one HAMMER have a DISTANCE below R");
        for (int r = 1; r <= 8; r++) {
            Tower x = towerOf(0);
            x.rest(r);
            for (int off = Math.max(1, r - 1); off <= r + 1; off++) {
                x.tell(0, "c0" + off + "c01");
                for (int hole : new int[] {0, 20, 31}) {
                    due(off + " off with R " + r, off < r ? 5 : 0, x.why(0, hole));
                    due("set", off >= r, x.set(0, hole) != NONE);
                }
            }
        }
        Tower x = towerOf(0, 5);
        x.rest(8);
        x.tell(0, "c01f01c07f02");
        due("first and third", 5, x.why(0, 0));
        x.tell(0, "c01f07c02f01");
        due("first and third 8 off", 0, x.why(0, 0));
        x.tell(0, "c01f07c01f01");
        due("only the last bell", 0, x.why(0, 0));
        x.tell(0, "c02f07c01f01");
        due("second and fourth 8 off", 0, x.why(0, 0));
        x.tell(0, "c02f06c01f01");
        due("second and fourth 7 off", 5, x.why(0, 0));
    }

    private static void hammersNeedRestRoundTheRing() {
        sentence("the shorter way");
        Tower x = towerOf(0);
        x.holes(10);
        for (int r = 1; r <= 5; r++) {
            x.rest(r);
            for (int off = 5; off <= 9; off++) {
                x.tell(0, "c0" + off + "c01");
                for (int hole : new int[] {0, 4, 9}) {
                    due(off + " off in 10 holes with R " + r, 10 - off < r ? 5 : 0, x.why(0, hole));
                }
            }
        }
        x.rest(6);
        x.tell(0, "c05c05");
        due("5 off at most in 10 holes", 5, x.why(0, 0));
        x.holes(11);
        due("and in 11", 5, x.why(0, 0));
        x.holes(12);
        x.tell(0, "c06c06");
        due("6 off in 12", 0, x.why(0, 0));
    }

    private static void hammersOfOneStroke() {
        sentence("no two STROKES of one HAMMER");
        Tower x = towerOf(0, 2);
        x.holes(8);
        x.rest(8);
        x.tell(0, "c08");
        due("one alone", 0, x.why(0, 0));
        x.tell(0, "(c0d0)8");
        due("one of each of two", 0, x.why(0, 7));
        x.tell(0, "c01d01");
        due("one of each of two, side by side", 0, x.why(0, 7));
        x.tell(0, "c04c04");
        due("two", 5, x.why(0, 0));
    }

    private static void twoAndThreeHammers() {
        sentence("Each STROKE has one HAMMER of its BELL");
        for (int hammers = 1; hammers <= 3; hammers++) {
            Tower x = new Tower();
            x.bell(0, 1, hammers);
            x.rest(4);
            x.tell(0, "c01".repeat(hammers));
            due("as many strokes as hammers", 0, x.why(0, 30));
            x.tell(0, "c01".repeat(hammers + 1));
            due("one more", 5, x.why(0, 30));
            x.tell(0, "c01".repeat(hammers - 1) + "c0" + (5 - hammers) + "c01");
            due("the last one 4 behind the first", 0, x.why(0, 30));
            x.tell(0, "c01".repeat(hammers - 1) + "c0" + Math.max(1, 4 - hammers) + "c01");
            due("the last one 3 behind the first", 5, x.why(0, 30));
        }
    }

    private static void hammersInAFullRing() {
        sentence("Each STROKE has one HAMMER of its BELL so that no two STROKES of one HAMMER have a DISTANCE below R");
        Tower x = new Tower();
        x.bell(0, 1, 3);
        for (int n = 8; n <= 12; n++) {
            x.holes(n);
            x.tell(0, "c01".repeat(n));
            x.rest(1);
            due(n + " in a full ring, R 1", 0, x.why(0, 1));
            x.rest(2);
            due(n + " in a full ring, R 2", 0, x.why(0, 1));
            x.rest(3);
            due(n + " in a full ring, R 3", n % 3 == 0 ? 0 : 5, x.why(0, 1));
            x.rest(4);
            due(n + " in a full ring, R 4", 5, x.why(0, 1));
        }
        Tower y = new Tower();
        y.bell(0, 1, 2);
        for (int n = 8; n <= 12; n++) {
            y.holes(n);
            y.rest(2);
            y.tell(0, "c01".repeat(n));
            due(n + " in a full ring, two hammers", n % 2 == 0 ? 0 : 5, y.why(0, n - 1));
        }
    }

    private static void forceAtAHole() {
        sentence("WEIGHTS of the BELLS with STROKES at one HOLE are together not above F");
        Tower x = new Tower();
        x.bell(0, 99, 1);
        x.bell(2, 98, 1);
        x.bell(4, 97, 1);
        x.bell(5, 96, 1);
        String[] texts = {"c01", "(c0d0)1", "(c0d0e0)1", "(c0d0e0f0)1", "(f0e0d0c0)1"};
        int[] weights = {99, 197, 294, 390, 390};
        for (int i = 0; i < texts.length; i++) {
            x.tell(0, texts[i]);
            x.force(weights[i] - 1);
            due(texts[i] + " above F by 1", 3, x.why(0, 0));
            due("set", NONE, x.set(0, 0));
            x.force(weights[i]);
            due(texts[i] + " as F", 0, x.why(0, 0));
            due("set", true, x.set(0, 0) != NONE);
            x.force(weights[i] + 1);
            due(texts[i] + " below F", 0, x.why(0, 0));
        }
        x.force(999);
        due("most F", 0, x.why(0, 0));
    }

    private static void forceOfEachUnit() {
        sentence("with STROKES at one HOLE");
        Tower x = new Tower();
        x.bell(0, 10, 1);
        x.bell(2, 20, 1);
        x.force(20);
        x.tell(0, "c01d01");
        due("not of two holes together", 0, x.why(0, 0));
        x.tell(0, "d05d05d05");
        due("not of all strokes together", 0, x.why(0, 0));
        x.tell(0, "(c0d0)3c03");
        due("the first unit", 3, x.why(0, 0));
        x.tell(0, "c03r1(c0d0)1");
        due("the last unit", 3, x.why(0, 0));
        x.tell(0, "c03(c0d0)3c03");
        due("one between", 3, x.why(0, 31));
        x.force(30);
        due("30", 0, x.why(0, 31));
    }

    private static void forceAtFirst() {
        sentence("200 at first): the FORCE");
        for (int last = 2; last <= 3; last++) {
            Tower x = new Tower();
            x.bell(0, 99, 1);
            x.bell(2, 99, 1);
            x.bell(4, last, 1);
            x.tell(0, "(c0d0e0)1");
            due(198 + last + " at first", last == 2 ? 0 : 3, x.why(0, 0));
        }
    }

    private static void forceAtItsLeast() {
        sentence("F (1 to 999");
        Tower x = new Tower();
        x.bell(0, 1, 1);
        x.bell(2, 1, 1);
        x.bell(4, 2, 1);
        x.force(1);
        x.tell(0, "c01d01");
        due("1 each", 0, x.why(0, 0));
        x.tell(0, "(c0d0)1");
        due("1 and 1", 3, x.why(0, 0));
        x.tell(0, "(c0e0)1c01e01");
        due("2", 3, x.why(0, 0));
        x.tell(0, "r1");
        due("nothing", 0, x.why(0, 0));
    }

    private static void twelveStrokes() {
        sentence("No BELL has more than 12 STROKES");
        Tower x = towerOf(0);
        x.holes(64);
        x.rest(1);
        for (int strokes = 11; strokes <= 14; strokes++) {
            x.tell(0, "c03".repeat(strokes));
            due(strokes + " strokes", strokes > 12 ? 4 : 0, x.why(0, 50));
            due("moves", strokes > 12 ? NONE : strokes, x.moves(0, 50));
            due("nearest", strokes > 12 ? NONE : 0, x.nearest(50));
            due("set", strokes <= 12, x.set(0, 50) != NONE);
            x.holes(64);
        }
        x.tell(0, "c03".repeat(12));
        due("twelve are set", 12, x.set(0, 50));
        due("pins", 12, x.count(6));
        x.tell(0, "c01".repeat(20));
        due("twenty", 4, x.why(0, 0));
    }

    private static void twelveStrokesOfEachBell() {
        sentence("more than 12 STROKES of a BELL");
        Tower x = towerOf(5, 0);
        x.rest(1);
        x.tell(0, "c01".repeat(12) + "f01".repeat(8));
        due("12 and 8", 0, x.why(0, 0));
        x.tell(0, "c01".repeat(8) + "f01".repeat(12));
        due("8 and 12", 0, x.why(0, 0));
        x.tell(0, "c01".repeat(13) + "f01".repeat(7));
        due("13 and 7", 4, x.why(0, 0));
        x.tell(0, "c01".repeat(7) + "f01".repeat(13));
        due("7 and 13", 4, x.why(0, 0));
        x.tell(0, "(c0f0)1".repeat(8));
        due("8 and 8", 0, x.why(0, 0));
        x.rest(8);
        due("for want of hammers", 5, x.why(0, 0));
    }

    private static void firstReasonThatHolds() {
        sentence("the first that holds: 0 it can; 1 no SHIFT; 2 too long; 3 FORCE; 4 more than 12 STROKES of a BELL; 5 HAMMERS");
        Tower x = new Tower();
        x.holes(13);
        x.force(9);
        x.tell(0, "(c0e0)2" + "c01".repeat(12));
        x.bell(4, 5, 1);
        due("all five", 1, x.why(0, 0));
        x.bell(0, 5, 1);
        due("too long, and three more", 2, x.why(0, 0));
        x.holes(14);
        due("force, and two more", 3, x.why(0, 0));
        x.force(10);
        due("strokes and hammers", 4, x.why(0, 0));
        x.tell(0, "(c0e0)2" + "c01".repeat(11));
        due("hammers", 5, x.why(0, 0));
        x.force(9);
        due("force and hammers", 3, x.why(0, 0));
        x.rest(1);
        due("force", 3, x.why(0, 0));
        x.holes(12);
        due("too long and force", 2, x.why(0, 0));
        x.force(10);
        due("too long", 2, x.why(0, 0));
        x.holes(13);
        due("it can", 0, x.why(0, 0));
        x.crack(0, true);
        due("no shift", 1, x.why(0, 0));
        x.holes(12);
        due("no shift, and too long", 1, x.why(0, 0));
    }

    private static void noSuchOnes() {
        sentence("NONE: it can't be, no such ones");
        Tower x = towerOf(0);
        x.tell(0, "c01");
        x.tell(2, "c41");
        for (int t : new int[] {-1, 1, 2, 6, Integer.MIN_VALUE, Integer.MAX_VALUE}) {
            due("set " + t, NONE, x.set(t, 0));
            due("moves of " + t, NONE, x.moves(t, 0));
            due("why " + t, NONE, x.why(t, 0));
            due("neither of them", NONE, x.why(t, 32));
        }
        due("a hole that isn't, before any reason", NONE, x.why(0, 32));
        x.crack(0, true);
        due("a hole that isn't, before any reason", NONE, x.why(0, 32));
        due("a hole that is", 1, x.why(0, 31));
        due("pins", 0, x.count(6));
    }

    private static void bestHasFewestLacking() {
        sentence("of all choices of HAMMERS that by which fewest STROKES have no PIN where they want one");
        Tower x = new Tower();
        x.bell(0, 1, 3);
        x.tell(0, "c01c01");
        x.pin(2, 4, true);
        due("a pin of the last hammer", 1, x.set(0, 4));
        due("pins", "0:5=0 2:4=0", x.pins());
        x.holes(32);
        x.pin(2, 5, true);
        due("for the second stroke", 1, x.set(0, 4));
        due("pins", "0:4=0 2:5=0", x.pins());
        x.holes(32);
        x.pin(1, 4, true);
        x.pin(0, 5, true);
        due("both", 0, x.set(0, 4));
        due("pins", "0:5=0 1:4=0", x.pins());
        x.holes(32);
        x.pin(1, 3, true);
        x.pin(2, 7, true);
        due("pins beside it are of no use", 4, x.set(0, 4));
        due("pins", "0:4=0 1:5=0", x.pins());
        Tower y = new Tower();
        y.bell(0, 1, 2);
        y.rest(1);
        y.pin(0, 0, true);
        y.pin(0, 2, true);
        y.pin(1, 4, true);
        y.rest(3);
        y.tell(0, "c02c02c01");
        due("one lacks rather than two", 2, y.set(0, 0));
        due("pins", "0:2=0 1:0=0 1:4=0", y.pins());
    }

    private static void bestCountsBrokenPins() {
        sentence("(BROKEN PINS stand, too)");
        Tower x = new Tower();
        x.bell(0, 1, 2);
        x.tell(0, "c04c04");
        x.life(1);
        x.pin(1, 0, true);
        x.turn(0, 1);
        due("broken", 1, x.count(7));
        due("moves", 1, x.moves(0, 0));
        due("set", 1, x.set(0, 0));
        due("the broken one stays", "0:4=0 1:0=1", x.pins());
        due("broken", 1, x.count(7));
        x.pin(0, 0, true);
        due("of two the least row, though its pin is whole", 1, x.set(0, 0));
        due("pins", "0:0=0 0:4=0", x.pins());
        x.turn(0, 1);
        x.pin(1, 0, true);
        due("of two the least row, though its pin is broken", 1, x.set(0, 0));
        due("pins", "0:0=1 0:4=0", x.pins());
    }

    private static void bestIsTheLeastRow() {
        sentence("of like ones the least row: HAMMERS (0 to 2), BELL by BELL");
        Tower x = new Tower();
        x.bell(9, 1, 3);
        x.bell(0, 1, 3);
        x.tell(0, "(c0a0)1(c0a0)1(c0a0)3c01");
        due("no pins", 7, x.set(0, 0));
        due("pins", "0:0=0 1:1=0 2:2=0 3:0=0 3:5=0 4:1=0 5:2=0", x.pins());
        Tower y = new Tower();
        y.bell(0, 1, 2);
        y.tell(0, "c01c01");
        y.rest(1);
        y.pin(1, 0, true);
        y.pin(1, 1, true);
        y.rest(3);
        due("one of two pins can stay", 2, y.set(0, 0));
        due("the least row", "0:0=0 1:1=0", y.pins());
        y.holes(32);
        y.rest(1);
        y.pin(0, 0, true);
        y.pin(0, 1, true);
        y.rest(3);
        due("one of two pins can stay", 2, y.set(0, 0));
        due("the least row", "0:0=0 1:1=0", y.pins());
    }

    private static void bestGoesInTheOrderOfUnits() {
        sentence("STROKES in the order of UNITS");
        Tower x = new Tower();
        x.bell(0, 1, 3);
        x.holes(8);
        x.tell(0, "c01c01c01");
        due("set", 3, x.set(0, 6));
        due("not in the order of holes", "0:6=0 1:7=0 2:0=0", x.pins());
        x.holes(8);
        due("set", 3, x.set(0, 7));
        due("not in the order of holes", "0:7=0 1:0=0 2:1=0", x.pins());
        x.holes(8);
        x.pin(2, 7, true);
        due("set", 2, x.set(0, 7));
        due("the rest by the least row", "0:0=0 1:1=0 2:7=0", x.pins());
    }

    /** Where the least hammer at once would leave none for what comes round the ring. */
    private static void bestLooksAhead() {
        sentence("Each STROKE has one HAMMER of its BELL so that");
        Tower x = new Tower();
        x.bell(0, 1, 3);
        x.holes(8);
        x.rest(3);
        x.tell(0, "c02c02c02c02");
        due("four round the ring", 4, x.set(0, 0));
        due("pins", "0:0=0 0:4=0 1:2=0 1:6=0", x.pins());
        x.holes(10);
        x.tell(0, "c02c02c02c02c02");
        due("five round the ring", 5, x.set(0, 0));
        due("the last one is near to the first", "0:0=0 0:4=0 1:2=0 1:6=0 2:8=0", x.pins());
        x.holes(10);
        x.pin(0, 8, true);
        due("a pin of the last stroke", 4, x.set(0, 0));
        due("decides over the first one", "0:2=0 0:8=0 1:0=0 1:4=0 2:6=0", x.pins());
    }

    private static void bestOfTwelveStrokes() {
        sentence("No BELL has more than 12 STROKES");
        Tower x = new Tower();
        x.bell(0, 1, 3);
        x.holes(64);
        x.tell(0, "c05".repeat(12));
        StringBuilder[] tracks = {new StringBuilder(), new StringBuilder(), new StringBuilder()};
        for (int i = 0; i < 12; i++) {
            int track = 2 - i * i % 3;
            x.pin(track, 5 * i, true);
            tracks[track].append(track).append(':').append(5 * i).append("=0 ");
        }
        due("each has its pin", 0, x.set(0, 0));
        due("pins", tracks[0].append(tracks[1]).append(tracks[2]).toString().trim(), x.pins());
        x.pin(2, 0, false);
        x.pin(1, 50, false);
        due("two lack", 2, x.set(0, 0));
        due("the first one by the least row", 0, x.strikes(0, 0));
        due("the last but one by the least row", 0, x.strikes(0, 50));
    }

    /** Twelve strokes of length 5, but some from the first near one on (round the ring) of length 1. */
    private static String twelveWithNear(int first, int near) {
        StringBuilder text = new StringBuilder();
        for (int i = 0; i < 12; i++) {
            text.append("c0").append(Math.floorMod(i - first, 12) < near ? 1 : 5);
        }
        return text.toString();
    }

    private static int holeOf(int stroke, int first, int near) {
        int hole = 0;
        for (int i = 0; i < stroke; i++) {
            hole += Math.floorMod(i - first, 12) < near ? 1 : 5;
        }
        return hole;
    }

    private static void threeSideBySide() {
        sentence("no two STROKES of one HAMMER have a DISTANCE below R");
        for (int first = 0; first <= 9; first++) {
            Tower x = new Tower();
            x.bell(0, 1, 3);
            x.holes(64);
            x.tell(0, twelveWithNear(first, 2));
            due("set", 12, x.set(0, 0));
            for (int i = 0; i < 12; i++) {
                int hammer = i > first && i <= first + 2 ? i - first : 0;
                due("stroke " + i + ", near from " + first, 0, x.strikes(hammer, holeOf(i, first, 2)));
            }
            due("one hammer less", 5, whyWithHammers(2, 64, twelveWithNear(first, 2)));
        }
    }

    private static void threeSideBySideRoundTheRing() {
        sentence("in a ring (behind the last one comes 0)");
        for (int first = 10; first <= 11; first++) {
            Tower x = new Tower();
            x.bell(0, 1, 3);
            x.holes(52);
            x.tell(0, twelveWithNear(first, 2));
            due("set", 12, x.set(0, 0));
            for (int i = 0; i < 12; i++) {
                int[] hammers = first == 10 ? new int[] {0, 0, 1, 2} : new int[] {0, 1, 0, 2};
                int hammer = i < 2 ? hammers[i] : i >= 10 ? hammers[i - 8] : 0;
                due("stroke " + i + ", near from " + first, 0, x.strikes(hammer, holeOf(i, first, 2)));
            }
            due("one hammer less", 5, whyWithHammers(2, 52, twelveWithNear(first, 2)));
        }
    }

    private static int whyWithHammers(int hammers, int holes, String text) {
        Tower x = new Tower();
        x.bell(0, 1, hammers);
        x.holes(holes);
        x.tell(0, text);
        return x.why(0, holes - 1);
    }

    private static void fourSideBySide() {
        sentence("Each STROKE has one HAMMER of its BELL so that no two STROKES of one HAMMER have a DISTANCE below R");
        for (int first = 0; first <= 11; first++) {
            Tower x = new Tower();
            x.bell(0, 1, 3);
            x.holes(48);
            x.rest(4);
            x.tell(0, twelveWithNear(first, 3));
            due("four within R, near from " + first, 5, x.why(0, 7));
            due("set", NONE, x.set(0, 7));
            x.rest(3);
            due("three within R, near from " + first, 0, x.why(0, 7));
        }
    }

    private static void pinsOutAndIn() {
        sentence("PINS that no STROKE wants are taken out, PINS that lack are put in (without STRIKES)");
        Tower x = new Tower();
        x.bell(0, 1, 2);
        x.bell(2, 1, 1);
        x.bell(4, 1, 1);
        x.tell(0, "c04c04");
        x.pin(0, 8, true);
        x.pin(1, 0, true);
        x.pin(0, 0, true);
        x.pin(2, 0, true);
        x.pin(3, 31, true);
        x.crack(2, true);
        x.turn(0, 32);
        due("moves", 5, x.moves(0, 0));
        due("set", 5, x.set(0, 0));
        due("pins", "0:0=1 0:4=0", x.pins());
        due("of bell 0", 2, x.look(0, 5));
        due("of another bell", 0, x.look(1, 5));
        due("of a cracked bell", 0, x.look(2, 5));
        due("all", 2, x.count(6));
    }

    private static void othersStayAsTheyAre() {
        sentence("all others stay as they are");
        Tower x = new Tower();
        x.bell(0, 1, 1);
        x.tell(0, "c04c04");
        x.tell(1, "c04");
        x.set(0, 0);
        x.turn(0, 32);
        x.turn(0, 1);
        x.life(2);
        due("nothing to move", 0, x.set(0, 0));
        due("strikes stay", "0:0=2 0:4=1", x.pins());
        due("broken", 1, x.count(7));
        due("one out", 1, x.set(1, 0));
        due("strikes stay", "0:0=2", x.pins());
        due("one in", 1, x.set(0, 0));
        due("without strikes", "0:0=2 0:4=0", x.pins());
        due("all moved", 4, x.set(0, 8));
        due("without strikes", "0:8=0 0:12=0", x.pins());
    }

    private static void restsTakeAllOut() {
        sentence("MOVED are those taken out and those put in");
        Tower x = towerOf(0, 2);
        x.tell(0, "c03d03c03");
        x.tell(1, "r1");
        due("nothing out, nothing in", 0, x.set(1, 0));
        due("three in", 3, x.set(0, 0));
        due("three out", 3, x.set(1, 0));
        due("pins", 0, x.count(6));
        due("three in", 3, x.set(0, 0));
        due("three out and three in", 6, x.set(0, 1));
        due("one stays", 4, x.set(0, 7));
        due("moved ever", 19, x.count(9));
    }

    private static void movesIsAsSet() {
        sentence("How many PINS would be MOVED by set()");
        Tower x = new Tower();
        x.bell(0, 3, 2);
        x.bell(5, 4, 1);
        x.tell(0, "c01c02f03");
        x.force(4);
        x.holes(8);
        for (int hole : new int[] {0, 1, 3, 7, 6, 0}) {
            String before = x.pins();
            int would = x.moves(0, hole);
            due("nothing is moved by moves()", before, x.pins());
            due("set", would, x.set(0, hole));
            due("then none", 0, x.moves(0, hole));
        }
        x.force(3);
        due("can't be", NONE, x.moves(0, 0));
        due("can't be", NONE, x.set(0, 0));
    }

    private static void nearestHasFewest() {
        sentence("of TUNES that can be SET there the one with fewest PINS MOVED");
        Tower x = towerOf(0, 5);
        x.tell(0, "c03c03c03");
        x.tell(3, "c03c03");
        x.tell(5, "c03");
        due("fewest in", 5, x.nearest(0));
        x.set(0, 0);
        due("that which stands", 0, x.nearest(0));
        x.set(3, 0);
        due("that which stands", 3, x.nearest(0));
        due("one out", 5, x.nearest(3));
        x.pin(1, 9, true);
        x.pin(0, 6, true);
        due("moves of 0", 1, x.moves(0, 0));
        due("moves of 3", 2, x.moves(3, 0));
        due("fewer by one", 0, x.nearest(0));
        due("nothing is moved", "0:0=0 0:3=0 0:6=0 1:9=0", x.pins());
    }

    private static void nearestOfLikeOnes() {
        sentence("of like ones the lowest");
        Tower x = towerOf(0, 5);
        x.tell(5, "c03");
        due("one alone", 5, x.nearest(0));
        x.tell(4, "f05");
        due("4 and 5", 4, x.nearest(0));
        x.tell(1, "f01");
        due("1 and 4 and 5", 1, x.nearest(0));
        x.tell(0, "c01f01");
        due("0 moves more", 1, x.nearest(0));
        x.tell(0, "f09");
        due("0 as many", 0, x.nearest(0));
        x.pin(0, 0, true);
        due("5 moves none", 5, x.nearest(0));
        x.tell(2, "c09");
        due("2 and 5", 2, x.nearest(0));
    }

    private static void nearestThatCanBeSet() {
        sentence("the TUNE; NONE: there is none, no such HOLE");
        Tower x = towerOf(0, 5);
        due("no tunes", NONE, x.nearest(0));
        x.holes(8);
        x.tell(0, "c01d01");
        due("no shift", NONE, x.nearest(0));
        x.tell(1, "c09");
        due("too long", NONE, x.nearest(0));
        x.tell(2, "(c0f0)1");
        x.force(1);
        due("force", NONE, x.nearest(0));
        x.tell(3, "c01c01");
        due("hammers", NONE, x.nearest(0));
        x.tell(4, "c01f04c03");
        due("too near round the ring is not", 4, x.nearest(0));
        x.tell(5, "r1");
        due("rests", 5, x.nearest(7));
        due("no such hole", NONE, x.nearest(8));
        due("no such hole", NONE, x.nearest(-1));
        x.force(2);
        due("of those that can be", 5, x.nearest(0));
        x.set(2, 0);
        due("none moved", 2, x.nearest(0));
        x.force(1);
        due("it can't be", 5, x.nearest(0));
    }
}
