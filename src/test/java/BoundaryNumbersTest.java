/** The edges of bells, tracks, holes, rest, force, life, the tape and of what can be asked. */
public final class BoundaryNumbersTest extends Check {
    private static final int LEAST = Integer.MIN_VALUE;
    private static final int MOST = Integer.MAX_VALUE;

    public static void main(String[] args) {
        newObject();
        bellsAreTwelve();
        pitches();
        noTwoPitchesAlike();
        weights();
        hammers();
        newBellsAreWhole();
        crackedOrRecast();
        tracksGoOn();
        tracksAreThirtySix();
        holesFromEightToSixtyFour();
        holesTakePinsOut();
        holesEndBeforeN();
        behindTheLastComesNought();
        distanceIsTheShorterWay();
        distanceInSmallRings();
        restFromOneToEight();
        restTakesNoPinsOut();
        forceFromOneUp();
        lifeFromOneUp();
        lifeAtFirst();
        lifeAtItsMost();
        pinsBreakAtLife();
        feedUpToEighty();
        feedHighestFirst();
        pinsByHand();
        mending();
        whatOfBells();
        whatOfTunes();
        whatOfAll();
        movedEver();
        end();
    }

    private static void newObject() {
        sentence("No BELLS, PINS, TUNES.");
        Tower x = new Tower();
        due("bells", 0, x.count(0));
        due("tracks", 0, x.count(1));
        due("pins", 0, x.count(6));
        due("broken", 0, x.count(7));
        due("the tape", 0, x.count(8));
        due("moved", 0, x.count(9));
        due("bell 0", NONE, x.look(0, 0));
        due("crack bell 0", false, x.crack(0, true));
        due("pin of track 0", false, x.pin(0, 0, true));
        due("strikes of track 0", NONE, x.strikes(0, 0));
        for (int t = 0; t <= 5; t++) {
            due("units of tune " + t, 0, x.told(t, 0));
            due("shift of tune " + t, -101, x.shift(t));
            due("set tune " + t, NONE, x.set(t, 0));
        }
        due("nearest", NONE, x.nearest(0));
        due("octet 0", NONE, x.octet(0));
        due("heard", 0, x.turn(0, 640));
        due("read", "r1", x.readBack(31, 1));
    }

    private static void bellsAreTwelve() {
        sentence("12 are");
        Tower x = new Tower();
        for (int b = 0; b <= 11; b++) {
            due("bell " + b, b, x.bell(b, 1, 1));
        }
        due("a thirteenth", NONE, x.bell(12, 1, 1));
        due("bells", 12, x.count(0));
        sentence("BELLS 0 to 11");
        due("crack 11", true, x.crack(11, true));
        due("crack 12", false, x.crack(12, true));
        due("crack 0", true, x.crack(0, true));
        due("crack -1", false, x.crack(-1, true));
        due("look 11", 11, x.look(11, 0));
        due("look 12", NONE, x.look(12, 0));
        due("look -1", NONE, x.look(-1, 0));
    }

    private static void pitches() {
        sentence("each of a PITCH (0 to 47");
        Tower x = new Tower();
        due("just below", NONE, x.bell(-1, 1, 1));
        due("the lowest", 0, x.bell(0, 1, 1));
        due("the highest", 1, x.bell(47, 1, 1));
        due("just above", NONE, x.bell(48, 1, 1));
        due("least int", NONE, x.bell(LEAST, 1, 1));
        due("greatest int", NONE, x.bell(MOST, 1, 1));
        due("bells", 2, x.count(0));
        due("of the lowest", 0, x.look(0, 0));
        due("of the highest", 47, x.look(1, 0));
    }

    private static void noTwoPitchesAlike() {
        sentence("that PITCH is there");
        Tower x = new Tower();
        due("20", 0, x.bell(20, 1, 1));
        due("20 again", NONE, x.bell(20, 2, 2));
        due("just below", 1, x.bell(19, 1, 1));
        due("just above", 2, x.bell(21, 1, 1));
        x.crack(0, true);
        due("20, its bell cracked", NONE, x.bell(20, 1, 1));
        due("0", 3, x.bell(0, 1, 1));
        due("0 again", NONE, x.bell(0, 1, 1));
        due("5, without weight", NONE, x.bell(5, 0, 1));
        due("5 is not there by that", 4, x.bell(5, 1, 1));
    }

    private static void weights() {
        sentence("a WEIGHT (1 to 99)");
        Tower x = new Tower();
        due("just below", NONE, x.bell(1, 0, 1));
        due("the least", 0, x.bell(2, 1, 1));
        due("the most", 1, x.bell(3, 99, 1));
        due("just above", NONE, x.bell(4, 100, 1));
        due("least int", NONE, x.bell(5, LEAST, 1));
        due("greatest int", NONE, x.bell(6, MOST, 1));
        due("below 0", NONE, x.bell(7, -1, 1));
        due("of the least", 1, x.look(0, 1));
        due("of the most", 99, x.look(1, 1));
    }

    private static void hammers() {
        sentence("one to three HAMMERS");
        Tower x = new Tower();
        due("none", NONE, x.bell(1, 1, 0));
        due("one", 0, x.bell(2, 1, 1));
        due("three", 1, x.bell(3, 1, 3));
        due("four", NONE, x.bell(4, 1, 4));
        due("least int", NONE, x.bell(5, 1, LEAST));
        due("greatest int", NONE, x.bell(6, 1, MOST));
        due("below 0", NONE, x.bell(7, 1, -1));
        due("of the one", 1, x.look(0, 2));
        due("of the three", 3, x.look(1, 2));
        due("tracks", 4, x.count(1));
    }

    private static void newBellsAreWhole() {
        sentence("a BELL is CRACKED, or not");
        Tower x = new Tower();
        x.bell(0, 1, 1);
        due("new", 0, x.look(0, 3));
        x.crack(0, true);
        due("cracked", 1, x.look(0, 3));
        due("the next one", 1, x.bell(1, 1, 1));
        due("is whole", 0, x.look(1, 3));
    }

    private static void crackedOrRecast() {
        sentence("false: no such one, it is so.");
        Tower x = new Tower();
        due("before any bell", false, x.crack(0, true));
        x.bell(0, 1, 1);
        due("recast, and it is whole", false, x.crack(0, false));
        due("crack", true, x.crack(0, true));
        due("crack, and it is cracked", false, x.crack(0, true));
        due("still cracked", 1, x.look(0, 3));
        due("recast", true, x.crack(0, false));
        due("whole", 0, x.look(0, 3));
        due("the bell behind the last", false, x.crack(1, true));
        due("the bell before the first", false, x.crack(-1, true));
        due("least int", false, x.crack(LEAST, true));
        due("greatest int", false, x.crack(MOST, true));
    }

    private static void tracksGoOn() {
        sentence("numbered from 0 on, BELL by BELL, HAMMER by HAMMER");
        Tower x = new Tower();
        x.bell(9, 1, 3);
        x.bell(5, 1, 1);
        x.bell(7, 1, 2);
        due("first track of bell 0", 0, x.look(0, 4));
        due("first track of bell 1", 3, x.look(1, 4));
        due("first track of bell 2", 4, x.look(2, 4));
        due("tracks", 6, x.count(1));
        due("track -1", false, x.pin(-1, 0, true));
        due("track 2", true, x.pin(2, 0, true));
        due("last of bell 0", 1, x.look(0, 5));
        due("track 3", true, x.pin(3, 1, true));
        due("all of bell 1", 1, x.look(1, 5));
        due("track 4", true, x.pin(4, 2, true));
        due("track 5", true, x.pin(5, 3, true));
        due("both of bell 2", 2, x.look(2, 5));
        due("track 6", false, x.pin(6, 0, true));
        due("read", "a01f01g01g01", x.readBack(0, 4));
        due("a bell more", 3, x.bell(8, 1, 1));
        due("track 6 now", true, x.pin(6, 0, true));
        due("and no 7", false, x.pin(7, 0, true));
    }

    private static void tracksAreThirtySix() {
        sentence("HAMMERS of all BELLS are TRACKS");
        Tower x = new Tower();
        for (int b = 0; b < 12; b++) {
            x.bell(b, 1, 3);
        }
        x.holes(64);
        due("tracks", 36, x.count(1));
        due("first track of the last bell", 33, x.look(11, 4));
        due("the last hole of all", true, x.pin(35, 63, true));
        due("the first hole of all", true, x.pin(0, 0, true));
        due("behind the last track", false, x.pin(36, 0, true));
        due("behind the last hole", false, x.pin(35, 64, true));
        due("strikes", 0, x.strikes(35, 63));
        due("strikes behind", NONE, x.strikes(36, 63));
        due("mend behind", NONE, x.mend(36, 63));
        due("heard", 2, x.turn(63, 2));
        due("read", "b01c01", x.readBack(63, 2));
        due("pins of the last bell", 1, x.look(11, 5));
        due("pins of the last but one", 0, x.look(10, 5));
    }

    private static void holesFromEightToSixtyFour() {
        sentence("N HOLES (8 to 64; 32 at first)");
        Tower x = new Tower();
        due("at first", 32, x.count(2));
        due("just below", false, x.holes(7));
        due("nothing changed", 32, x.count(2));
        due("fewest", true, x.holes(8));
        due("fewest", 8, x.count(2));
        due("most", true, x.holes(64));
        due("most", 64, x.count(2));
        due("just above", false, x.holes(65));
        due("nothing changed", 64, x.count(2));
        due("0", false, x.holes(0));
        due("below 0", false, x.holes(-8));
        due("least int", false, x.holes(LEAST));
        due("greatest int", false, x.holes(MOST));
        due("nothing changed", 64, x.count(2));
    }

    private static void holesTakePinsOut() {
        sentence("N HOLES, all PINS are out: true; false: no such number.");
        Tower x = new Tower();
        x.bell(0, 1, 1);
        x.pin(0, 31, true);
        x.turn(31, 1);
        due("no such number", false, x.holes(7));
        due("no such number", false, x.holes(65));
        due("the pin stays", "0:31=1", x.pins());
        due("as many as there are", true, x.holes(32));
        due("pins", 0, x.count(6));
        due("it is out", NONE, x.strikes(0, 31));
        due("a new one", true, x.pin(0, 31, true));
        due("without strikes", 0, x.strikes(0, 31));
        x.holes(8);
        x.holes(64);
        due("out for good", NONE, x.strikes(0, 31));
        due("pins of the bell", 0, x.look(0, 5));
        due("none is too near", true, x.pin(0, 30, true));
        due("not moved by set()", 0, x.count(9));
    }

    /** Each call that takes a hole, just outside and just inside of a ring. */
    private static void holesEndBeforeN() {
        sentence("0 to N - 1, for each TRACK");
        for (int n : new int[] {8, 32, 64}) {
            Tower x = new Tower();
            x.holes(n);
            x.bell(0, 1, 1);
            x.tell(0, "c01");
            for (int hole : new int[] {-1, n, LEAST, MOST}) {
                String at = " at " + hole + " of " + n;
                due("set" + at, NONE, x.set(0, hole));
                due("moves" + at, NONE, x.moves(0, hole));
                due("why" + at, NONE, x.why(0, hole));
                due("nearest" + at, NONE, x.nearest(hole));
                due("pin" + at, false, x.pin(0, hole, true));
                due("no pin" + at, false, x.pin(0, hole, false));
                due("mend" + at, NONE, x.mend(0, hole));
                due("turn" + at, NONE, x.turn(hole, 1));
                due("read" + at, NONE, x.read(hole, 1));
                due("strikes" + at, NONE, x.strikes(0, hole));
            }
            due("pins", 0, x.count(6));
            for (int hole : new int[] {0, n - 1}) {
                String at = " at " + hole + " of " + n;
                due("pin" + at, true, x.pin(0, hole, true));
                due("moves" + at, 0, x.moves(0, hole));
                due("why" + at, 0, x.why(0, hole));
                due("nearest" + at, 0, x.nearest(hole));
                due("set" + at, 0, x.set(0, hole));
                due("turn" + at, 1, x.turn(hole, 1));
                due("read" + at, "c01", x.readBack(hole, 1));
                due("strikes" + at, 1, x.strikes(0, hole));
                due("mend" + at, 1, x.mend(0, hole));
                due("no pin" + at, true, x.pin(0, hole, false));
            }
        }
    }

    private static void behindTheLastComesNought() {
        sentence("in a ring (behind the last one comes 0)");
        for (int n : new int[] {8, 9, 32, 64}) {
            Tower x = new Tower();
            x.holes(n);
            x.rest(1);
            x.bell(0, 1, 1);
            x.tell(0, "c01c01c01");
            due("set", 3, x.set(0, n - 2));
            due("pins", "0:0=0 0:" + (n - 2) + "=0 0:" + (n - 1) + "=0", x.pins());
            due("at the last", 1, x.turn(n - 1, 1));
            due("at the last and 0", 2, x.turn(n - 1, 2));
            due("not 1", 2, x.turn(n - 1, 3));
            due("read", "c01c02", x.readBack(n - 1, 3));
            due("all round, up to before the first", 3, x.turn(n - 1, n));
            due("and on to the first again", 4, x.turn(n - 1, n + 1));
        }
    }

    private static void distanceIsTheShorterWay() {
        sentence("how many steps round the ring, the shorter way");
        for (int n : new int[] {16, 17, 64}) {
            for (int from : new int[] {0, 1, 7, 8, n - 1}) {
                Tower x = new Tower();
                x.holes(n);
                x.rest(8);
                x.bell(0, 1, 1);
                x.pin(0, from, true);
                for (int way = 1; way < n; way++) {
                    int hole = (from + way) % n;
                    boolean far = way >= 8 && n - way >= 8;
                    due("from " + from + " to " + hole + " of " + n, far, x.pin(0, hole, true));
                    due("taken out", far, x.pin(0, hole, false));
                }
            }
        }
    }

    private static void distanceInSmallRings() {
        sentence("DISTANCE of two HOLES");
        Tower x = new Tower();
        x.bell(0, 1, 1);
        x.holes(8);
        x.rest(5);
        x.pin(0, 2, true);
        due("opposite are 4, not 5", false, x.pin(0, 6, true));
        x.rest(4);
        due("opposite are 4", true, x.pin(0, 6, true));
        x.holes(15);
        x.rest(8);
        x.pin(0, 2, true);
        due("none has 8 in a ring of 15", false, x.pin(0, 9, true));
        due("none has 8 in a ring of 15", false, x.pin(0, 10, true));
        x.rest(7);
        due("7 one way", true, x.pin(0, 9, true));
        x.pin(0, 9, false);
        due("7 the other way", true, x.pin(0, 10, true));
    }

    private static void restFromOneToEight() {
        sentence("R (1 to 8; 3 at first)");
        Tower x = new Tower();
        due("at first", 3, x.count(3));
        x.bell(0, 1, 1);
        x.pin(0, 10, true);
        due("2 off at first", false, x.pin(0, 12, true));
        due("3 off at first", true, x.pin(0, 13, true));
        due("just below", false, x.rest(0));
        due("nothing changed", 3, x.count(3));
        due("least", true, x.rest(1));
        due("least", 1, x.count(3));
        due("1 off", true, x.pin(0, 14, true));
        due("most", true, x.rest(8));
        due("most", 8, x.count(3));
        due("7 off", false, x.pin(0, 21, true));
        due("8 off", true, x.pin(0, 22, true));
        due("just above", false, x.rest(9));
        due("below 0", false, x.rest(-1));
        due("least int", false, x.rest(LEAST));
        due("greatest int", false, x.rest(MOST));
        due("nothing changed", 8, x.count(3));
    }

    private static void restTakesNoPinsOut() {
        sentence("(PINS that stand stay; likewise force(), life().)");
        Tower x = new Tower();
        x.bell(0, 99, 1);
        x.pin(0, 0, true);
        x.pin(0, 3, true);
        x.turn(3, 1);
        x.rest(8);
        due("nearer than R", "0:0=0 0:3=1", x.pins());
        x.force(1);
        due("heavier than F", "0:0=0 0:3=1", x.pins());
        x.life(1);
        due("broken", "0:0=0 0:3=1", x.pins());
        due("broken", 1, x.count(7));
        due("what is too near and too heavy is heard", 1, x.turn(0, 32));
    }

    private static void forceFromOneUp() {
        sentence("F (1 to 999; 200 at first)");
        Tower x = new Tower();
        due("at first", 200, x.count(4));
        due("just below", false, x.force(0));
        due("nothing changed", 200, x.count(4));
        due("least", true, x.force(1));
        due("least", 1, x.count(4));
        due("most", true, x.force(999));
        due("most", 999, x.count(4));
        due("just above", false, x.force(1000));
        due("below 0", false, x.force(-1));
        due("least int", false, x.force(LEAST));
        due("greatest int", false, x.force(MOST));
        due("nothing changed", 999, x.count(4));
    }

    private static void lifeFromOneUp() {
        sentence("L (1 to 10000; 1000 at first)");
        Tower x = new Tower();
        due("at first", 1000, x.count(5));
        due("just below", false, x.life(0));
        due("nothing changed", 1000, x.count(5));
        due("least", true, x.life(1));
        due("least", 1, x.count(5));
        due("most", true, x.life(10000));
        due("most", 10000, x.count(5));
        due("just above", false, x.life(10001));
        due("below 0", false, x.life(-1));
        due("least int", false, x.life(LEAST));
        due("greatest int", false, x.life(MOST));
        due("nothing changed", 10000, x.count(5));
    }

    private static void lifeAtFirst() {
        sentence("1000 at first): STRIKES that a PIN bears");
        Tower x = new Tower();
        x.bell(0, 1, 1);
        x.holes(8);
        x.pin(0, 7, true);
        for (int i = 0; i < 12; i++) {
            due("80 rounds", 80, x.turn(0, 640));
        }
        due("39 rounds", 39, x.turn(0, 312));
        due("not broken by 999", 0, x.count(7));
        due("the thousandth", 1, x.turn(0, 8));
        due("broken by 1000", 1, x.count(7));
        due("no more", 0, x.turn(0, 640));
        due("strikes", 1000, x.strikes(0, 7));
    }

    private static void lifeAtItsMost() {
        sentence("L (1 to 10000");
        Tower x = new Tower();
        x.bell(0, 1, 1);
        x.holes(8);
        x.life(10000);
        x.pin(0, 0, true);
        int heard = 0;
        for (int i = 0; i < 124; i++) {
            heard += x.turn(1, 640);
        }
        due("124 times 80", 9920, heard);
        due("79 more", 79, x.turn(1, 639));
        due("not broken by 9999", 0, x.look(0, 6));
        due("the last", 1, x.turn(0, 640));
        due("broken by 10000", 1, x.look(0, 6));
        due("strikes", 10000, x.strikes(0, 0));
        due("made new", 10000, x.mend(0, 0));
        due("heard again", 80, x.turn(0, 640));
    }

    private static void pinsBreakAtLife() {
        sentence("with L STRIKES made or more it is BROKEN and strikes no more");
        Tower x = new Tower();
        x.bell(0, 1, 1);
        x.bell(2, 1, 1);
        x.life(3);
        x.pin(0, 5, true);
        due("twice", 2, x.turn(5, 33));
        due("whole", 0, x.count(7));
        due("would be heard", "c01", x.readBack(5, 1));
        due("the third", 1, x.turn(5, 1));
        due("broken", 1, x.count(7));
        due("of its bell", 1, x.look(0, 6));
        due("not of the other", 0, x.look(1, 6));
        due("would not be heard", "r1", x.readBack(5, 1));
        due("no more", 0, x.turn(5, 33));
        due("strikes", 3, x.strikes(0, 5));
        due("it stands", 1, x.count(6));
        x.life(2);
        due("broken with more than L", 1, x.count(7));
        due("no more", 0, x.turn(5, 1));
        due("strikes", 3, x.strikes(0, 5));
        x.life(4);
        due("L above its strikes", 0, x.count(7));
        due("one more", 1, x.turn(5, 640));
        due("strikes", 4, x.strikes(0, 5));
        x.life(1);
        x.pin(1, 6, true);
        due("within one turn", 1, x.turn(5, 640));
        due("both", 2, x.count(7));
    }

    private static void feedUpToEighty() {
        sentence("NONE if that would be more than 80");
        Tower x = new Tower();
        due("20", 20, x.feed(0, 0, 0, 0, 0));
        due("40", 40, x.feed(0, 0, 0, 0, 0));
        due("60", 60, x.feed(0, 0, 0, 0, 0));
        due("80", 80, x.feed(0, 0, 0, 0, 0));
        due("80", 80, x.count(8));
        due("100", NONE, x.feed(0, 0, 0, 0, 0));
        due("still 80", 80, x.count(8));
        due("100 again", NONE, x.feed(0, 0, 0, 0, 0));
        due("empty by tune()", 100, x.tune(0, 0));
        due("0", 0, x.count(8));
        due("20", 20, x.feed(0, 0, 0, 0, 0));
    }

    private static void feedHighestFirst() {
        sentence("Twenty bytes come behind the tape, the highest of each int first");
        Tower x = new Tower();
        // c01r 2d12 e23f 34r5 r6g# and then 07
        due("20", 20, x.feed(0x63303172, 0x32643132, 0x65323366, 0x33347235, 0x72366723));
        due("40", 40, x.feed(0x3037ffff, -1, LEAST, MOST, 0));
        due("22 of them", 0, x.tune(0, 22));
        due("units", 8, x.told(0, 0));
        due("notes", 5, x.told(0, 1));
        due("lengths", 1 + 2 + 2 + 3 + 4 + 5 + 6 + 7, x.told(0, 2));
        due("lowest", 0, x.told(0, 3));
        due("highest", 41, x.told(0, 4));
        x.feed(0x63303172, 0x32643132, 0x65323366, 0x33347235, 0x72366723);
        x.feed(0x3037ffff, -1, LEAST, MOST, 0);
        due("21 of them end before the length", 121, x.tune(0, 21));
        x.feed(0x63303172, 0x32643132, 0x65323366, 0x33347235, 0x72366723);
        x.feed(0x3037ffff, -1, LEAST, MOST, 0);
        due("23 of them have a byte 255", 122, x.tune(0, 23));
        for (int b : new int[] {0, 127, 128, 255}) {
            x.feed(b << 24, 0, 0, 0, 0);
            due("byte " + b, 100, x.tune(0, 1));
        }
    }

    private static void pinsByHand() {
        sentence("false: no such TRACK, HOLE, it is so, put in nearer than R to another one of its TRACK");
        Tower x = new Tower();
        x.bell(0, 1, 2);
        due("none to take out", false, x.pin(0, 10, false));
        due("put in", true, x.pin(0, 10, true));
        due("it is in", false, x.pin(0, 10, true));
        for (int off = 1; off <= 4; off++) {
            due(off + " behind it", off >= 3, x.pin(0, 10 + off, true));
            due("out again", off >= 3, x.pin(0, 10 + off, false));
            due(off + " before it", off >= 3, x.pin(0, 10 - off, true));
            due("out again", off >= 3, x.pin(0, 10 - off, false));
        }
        due("another track", true, x.pin(1, 10, true));
        due("another track's neighbour", false, x.pin(1, 11, true));
        x.turn(10, 1);
        due("it is in, and keeps its strikes", false, x.pin(0, 10, true));
        due("strikes", "0:10=1 1:10=1", x.pins());
        x.rest(8);
        x.rest(1);
        due("1 off with R 1", true, x.pin(0, 11, true));
        x.rest(8);
        due("taken out, though nearer than R", true, x.pin(0, 10, false));
        due("put in again, nearer than R", false, x.pin(0, 10, true));
        x.pin(0, 11, false);
        due("put in again", true, x.pin(0, 10, true));
        due("without strikes", 0, x.strikes(0, 10));
        x.life(1);
        x.turn(10, 1);
        due("nearer than R to a broken one", false, x.pin(0, 17, true));
        due("R off a broken one", true, x.pin(0, 18, true));
        for (int far : new int[] {-1, 2, LEAST, MOST}) {
            due("track " + far, false, x.pin(far, 20, true));
            due("track " + far, false, x.pin(far, 20, false));
        }
    }

    private static void mending() {
        sentence("its STRIKES are 0: how many it had; NONE: there is none");
        Tower x = new Tower();
        due("no track", NONE, x.mend(0, 0));
        x.bell(0, 1, 1);
        due("no pin", NONE, x.mend(0, 4));
        x.pin(0, 4, true);
        due("0 strikes", 0, x.mend(0, 4));
        x.turn(4, 1);
        due("1 strike", 1, x.mend(0, 4));
        due("0 strikes", 0, x.mend(0, 4));
        x.life(2);
        x.turn(4, 64);
        due("broken", 1, x.count(7));
        due("2 strikes", 2, x.mend(0, 4));
        due("broken no more", 0, x.count(7));
        due("strikes", 0, x.strikes(0, 4));
        due("beside it", NONE, x.mend(0, 5));
        due("beside it", NONE, x.strikes(0, 5));
        x.pin(0, 4, false);
        due("taken out", NONE, x.mend(0, 4));
        due("is not put in", 0, x.count(6));
        for (int far : new int[] {-1, 1, LEAST, MOST}) {
            due("track " + far, NONE, x.mend(far, 4));
            due("track " + far, NONE, x.strikes(far, 4));
        }
    }

    private static void whatOfBells() {
        sentence("5 PINS, 6 BROKEN ones. NONE for others.");
        Tower x = new Tower();
        due("no bell", NONE, x.look(0, 0));
        x.bell(47, 99, 3);
        x.bell(0, 1, 1);
        x.crack(0, true);
        x.life(1);
        x.pin(2, 0, true);
        x.turn(0, 1);
        x.pin(0, 0, true);
        int[] first = {47, 99, 3, 1, 0, 2, 1};
        int[] last = {0, 1, 1, 0, 3, 0, 0};
        for (int what = 0; what <= 6; what++) {
            due("bell 0, what " + what, first[what], x.look(0, what));
            due("bell 1, what " + what, last[what], x.look(1, what));
            due("bell 2, what " + what, NONE, x.look(2, what));
            due("bell -1, what " + what, NONE, x.look(-1, what));
        }
        for (int far : new int[] {-1, 7, LEAST, MOST}) {
            due("what " + far, NONE, x.look(0, far));
            due("bell " + far, NONE, x.look(far, 0));
        }
    }

    private static void whatOfTunes() {
        sentence("0 UNITS (0: there is none), 1 NOTES, 2 LENGTHS together, 3 the lowest PITCH, 4 the highest (NONE: no NOTES)");
        Tower x = new Tower();
        x.tell(0, "r9");
        x.tell(5, "c01(b3c#0e1)9r9");
        int[] none = {0, 0, 0, NONE, NONE};
        int[] rest = {1, 0, 9, NONE, NONE};
        int[] last = {3, 4, 19, 0, 47};
        for (int what = 0; what <= 4; what++) {
            due("rests alone, what " + what, rest[what], x.told(0, what));
            due("never told, what " + what, none[what], x.told(1, what));
            due("tune 5, what " + what, last[what], x.told(5, what));
            due("tune 6, what " + what, NONE, x.told(6, what));
            due("tune -1, what " + what, NONE, x.told(-1, what));
        }
        for (int far : new int[] {-1, 5, LEAST, MOST}) {
            due("what " + far, NONE, x.told(5, far));
            due("what " + far + " of none", NONE, x.told(1, far));
        }
        due("least int", NONE, x.told(LEAST, 0));
        due("greatest int", NONE, x.told(MOST, 0));
        x.tell(0, "b#31");
        due("above all bells, lowest", 48, x.told(0, 3));
        due("above all bells, highest", 48, x.told(0, 4));
        x.tell(0, "c01");
        due("0 is a pitch, lowest", 0, x.told(0, 3));
        due("0 is a pitch, highest", 0, x.told(0, 4));
    }

    private static void whatOfAll() {
        sentence("8 bytes of the tape, 9 MOVED ever by set(). NONE for others.");
        Tower x = new Tower();
        x.bell(0, 5, 3);
        x.holes(10);
        x.rest(2);
        x.force(7);
        x.life(1);
        x.tell(0, "c05c05");
        x.set(0, 9);
        x.turn(4, 1);
        x.feed(0, 0, 0, 0, 0);
        int[] all = {1, 3, 10, 2, 7, 1, 2, 1, 20, 2};
        for (int what = 0; what <= 9; what++) {
            due("what " + what, all[what], x.count(what));
        }
        for (int far : new int[] {-1, 10, LEAST, MOST}) {
            due("what " + far, NONE, x.count(far));
        }
    }

    private static void movedEver() {
        sentence("9 MOVED ever by set()");
        Tower x = new Tower();
        x.bell(0, 5, 1);
        x.tell(0, "c03c03");
        x.pin(0, 20, true);
        due("by hand", 0, x.count(9));
        x.moves(0, 0);
        due("by moves()", 0, x.count(9));
        due("one out, two in", 3, x.set(0, 0));
        due("by set()", 3, x.count(9));
        due("none", 0, x.set(0, 0));
        due("none", 3, x.count(9));
        due("can't be", NONE, x.set(0, 32));
        due("can't be", 3, x.count(9));
        x.pin(0, 0, false);
        x.holes(32);
        due("by hand and by holes()", 3, x.count(9));
        due("two in", 2, x.set(0, 0));
        due("together", 5, x.count(9));
    }
}
