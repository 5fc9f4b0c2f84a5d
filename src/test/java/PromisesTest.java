/** Each promise of the document by hand: ordinary inputs, edges and wrong inputs. */
public final class PromisesTest extends Check {
    private static final int[] FAR = {Integer.MIN_VALUE, -1000, -2, -1, 1000, Integer.MAX_VALUE};

    public static void main(String[] args) {
        newObject();
        bells();
        bellsAreTwelve();
        cracks();
        holes();
        restForceLife();
        feed();
        tunes();
        faultsOfShape();
        faultsOfSense();
        shifts();
        set();
        setChoosesHammers();
        setKeepsPins();
        moves();
        why();
        whyHammers();
        nearest();
        pins();
        mend();
        turn();
        read();
        octets();
        strikes();
        look();
        told();
        count();
        end();
    }

    private static void newObject() {
        sentence("promise 1");
        Tower x = new Tower();
        int[] first = {0, 0, 32, 3, 200, 1000, 0, 0, 0, 0};
        for (int what = 0; what < first.length; what++) {
            due("count " + what, first[what], x.count(what));
        }
        for (int t = 0; t < 6; t++) {
            due("told units", 0, x.told(t, 0));
            due("shift", -101, x.shift(t));
            due("why", -1, x.why(t, 0));
        }
        due("nearest", -1, x.nearest(0));
        due("look", -1, x.look(0, 0));
        due("octet", -1, x.octet(0));
        due("turn", 0, x.turn(31, 640));
        due("read", "r9r9r9r5", x.readBack(0, 32));
        due("NONE", -1, ChimeDrum.NONE);
        Tower y = new Tower();
        y.bell(1, 1, 1);
        due("bells of the other", 0, x.count(0));
    }

    private static void bells() {
        sentence("promise 2");
        Tower x = new Tower();
        due("lowest", 0, x.bell(0, 1, 1));
        due("highest", 1, x.bell(47, 99, 3));
        for (int far : FAR) {
            due("pitch " + far, -1, x.bell(far, 1, 1));
            due("weight " + far, -1, x.bell(1, far, 1));
            due("hammers " + far, -1, x.bell(1, 1, far));
        }
        due("pitch 48", -1, x.bell(48, 1, 1));
        due("weight 0", -1, x.bell(1, 0, 1));
        due("weight 100", -1, x.bell(1, 100, 1));
        due("hammers 0", -1, x.bell(1, 1, 0));
        due("hammers 4", -1, x.bell(1, 1, 4));
        due("that pitch again", -1, x.bell(47, 1, 1));
        x.crack(1, true);
        due("that pitch, cracked", -1, x.bell(47, 1, 1));
        due("next", 2, x.bell(1, 2, 2));
        due("bells", 3, x.count(0));
        due("tracks", 6, x.count(1));
        due("first track", 4, x.look(2, 4));
    }

    private static void bellsAreTwelve() {
        sentence("promise 2");
        Tower x = new Tower();
        for (int b = 0; b < 12; b++) {
            due("bell " + b, b, x.bell(47 - b, 5, 3));
        }
        due("a thirteenth", -1, x.bell(0, 5, 1));
        due("bells", 12, x.count(0));
        due("tracks", 36, x.count(1));
        due("the last pin", true, x.pin(35, 31, true));
        due("none behind it", false, x.pin(36, 31, true));
        due("heard", 1, x.turn(31, 1));
        due("read", "c31", x.readBack(31, 1));
        due("pins of the last", 1, x.look(11, 5));
    }

    private static void cracks() {
        sentence("promise 3");
        Tower x = new Tower();
        x.bell(0, 1, 1);
        x.bell(5, 1, 1);
        due("whole already", false, x.crack(0, false));
        due("cracked", true, x.crack(0, true));
        due("cracked already", false, x.crack(0, true));
        due("look", 1, x.look(0, 3));
        due("the other", 0, x.look(1, 3));
        due("recast", true, x.crack(0, false));
        due("look", 0, x.look(0, 3));
        due("no such bell", false, x.crack(2, true));
        for (int far : FAR) {
            due("no such bell", false, x.crack(far, true));
        }
    }

    private static void holes() {
        sentence("promise 4");
        Tower x = new Tower();
        x.bell(0, 1, 1);
        x.pin(0, 3, true);
        for (int n : new int[] {7, 65, 0, -8, Integer.MAX_VALUE, Integer.MIN_VALUE}) {
            due("holes " + n, false, x.holes(n));
        }
        due("pins stay", 1, x.count(6));
        due("N stays", 32, x.count(2));
        due("as many again", true, x.holes(32));
        due("pins are out", 0, x.count(6));
        due("strikes", -1, x.strikes(0, 3));
        due("fewest", true, x.holes(8));
        due("N", 8, x.count(2));
        due("hole 8", false, x.pin(0, 8, true));
        due("most", true, x.holes(64));
        due("hole 63", true, x.pin(0, 63, true));
        due("hole 64", false, x.pin(0, 64, true));
        x.holes(8);
        x.holes(64);
        due("out for good", -1, x.strikes(0, 63));
    }

    private static void restForceLife() {
        Tower x = new Tower();
        x.bell(0, 50, 1);
        x.pin(0, 0, true);
        x.pin(0, 3, true);
        sentence("promise 5");
        due("rest 8", true, x.rest(8));
        due("R", 8, x.count(3));
        due("rest 9", false, x.rest(9));
        due("rest 0", false, x.rest(0));
        due("R stays", 8, x.count(3));
        due("pins stay", "0:0=0 0:3=0", x.pins());
        due("rest 1", true, x.rest(1));
        due("rest 1 again", true, x.rest(1));
        due("R", 1, x.count(3));
        sentence("promise 6");
        due("force 999", true, x.force(999));
        due("F", 999, x.count(4));
        due("force 1000", false, x.force(1000));
        due("force 0", false, x.force(0));
        due("F stays", 999, x.count(4));
        due("force 1", true, x.force(1));
        due("force 1 again", true, x.force(1));
        due("F", 1, x.count(4));
        due("pins stay", 2, x.count(6));
        sentence("promise 7");
        due("life 10000", true, x.life(10000));
        due("L", 10000, x.count(5));
        due("life 10001", false, x.life(10001));
        due("life 0", false, x.life(0));
        due("L stays", 10000, x.count(5));
        due("life 1", true, x.life(1));
        due("life 1 again", true, x.life(1));
        due("L", 1, x.count(5));
        due("pins stay", 2, x.count(6));
        due("heard", 2, x.turn(0, 64));
        due("broken", 2, x.count(7));
        x.life(2);
        due("broken no more", 0, x.count(7));
        due("heard again", 2, x.turn(0, 64));
        for (int far : FAR) {
            boolean isForce = far == 1000;
            sentence("promise 5");
            due("rest " + far, false, x.rest(far));
            sentence("promise 6");
            due("force " + far, false, x.force(far));
            sentence("promise 7");
            due("life " + far, isForce, x.life(far));
        }
    }

    private static void feed() {
        sentence("promise 8");
        Tower x = new Tower();
        due("first", 20, x.feed(1, 2, 3, 4, 5));
        due("second", 40, x.feed(-1, -1, -1, -1, -1));
        due("third", 60, x.feed(0, 0, 0, 0, 0));
        due("fourth", 80, x.feed(0, 0, 0, 0, 0));
        due("fifth", -1, x.feed(0, 0, 0, 0, 0));
        due("tape", 80, x.count(8));
        x.tune(0, 0);
        due("tape", 0, x.count(8));
        due("words", 20, x.feed(word("c01r"), word("2d13"), word("r4r5"), word("r6r7"), word("r8e2")));
        due("behind", 40, x.feed(word("9\u00ff\u00ff\u00ff"), -1, -1, -1, -1));
        due("tune", 0, x.tune(0, 21));
        due("units", 9, x.told(0, 0));
        due("lengths", 45, x.told(0, 2));
        due("highest", 28, x.told(0, 4));
        x.feed(word("r1r1"), word("r1r1"), word("r1r1"), word("r1r1"), word("r1r1"));
        x.feed(-1, -1, -1, -1, -1);
        due("a byte above 127", 120, x.tune(0, 21));
    }

    private static int word(String four) {
        return four.charAt(0) << 24 | four.charAt(1) << 16 | four.charAt(2) << 8 | four.charAt(3);
    }

    private static void tunes() {
        sentence("promise 9");
        Tower x = new Tower();
        due("nothing fed", -1, x.tune(0, 1));
        due("no text", 100, x.tune(0, 0));
        x.feedText("r1r2");
        for (int far : FAR) {
            due("no such tune", -1, x.tune(far, 2));
            due("no such size", -1, x.tune(0, far));
        }
        due("no such tune", -1, x.tune(6, 2));
        due("more than there are", -1, x.tune(0, 21));
        due("tape stays", 20, x.count(8));
        due("a part", 0, x.tune(5, 2));
        due("tape is empty", 0, x.count(8));
        due("units", 1, x.told(5, 0));
        String sixty = "r1".repeat(30);
        x.feedText(sixty);
        x.feed(0, 0, 0, 0, 0);
        due("61", -1, x.tune(0, 61));
        due("tape stays", 80, x.count(8));
        due("60", 0, x.tune(0, 60));
        due("units", 30, x.told(0, 0));
        due("tape is empty", 0, x.count(8));
        due("fault", 102, x.tell(0, "r1x1"));
        due("tune stays", 30, x.told(0, 0));
        due("tape is empty", 0, x.count(8));
        due("told anew", 0, x.tell(0, "(c0e0g0b0)1c01"));
        due("units", 2, x.told(0, 0));
        due("notes", 5, x.told(0, 1));
        due("many notes", 0, x.tell(1, "(c0d0e0f0)1".repeat(5) + "c01r1"));
        due("notes", 21, x.told(1, 1));
        due("pairs", 0, x.tell(1, "(c0d0)1".repeat(8) + "r9r9"));
        due("notes", 16, x.told(1, 1));
        due("units", 10, x.told(1, 0));
    }

    private static void faultsOfShape() {
        sentence("promise 9");
        Tower x = new Tower();
        Object[] faults = {
            "c", 101, "c0", 102, "c#", 102, "c#0", 103, "r", 101, "(", 101, "(c0", 103, "(c0d0", 105, "(c0d0)", 106,
            "(c0d0e0f0", 109, "c00", 102, "c0:", 102, "c0/", 102, "c41", 101, "c/1", 101, "r0", 101, "r:", 101,
            "h01", 100, "`01", 100, "C01", 100, "s1", 100, "R1", 100, "c##01", 102, "c0#1", 102, "cb01", 101,
            ")", 100, "()1", 101, "(r)1", 101, "(c0)1", 103, "(c0r1)1", 103, "(c01d0)1", 103, "((c0d0))1", 101,
            "(c0d0)0", 106, "(c0d0))", 106, "(c0d0e0f0(", 109, "(c0d0e0f0r", 109, "(c0d0e0f0h0)1", 109,
            "#01", 100, "1", 100, "c01 d01", 103, "c01\0", 103, "c01\u00e3", 103, "\u00e301", 100, "c01)", 103,
            "r1r1r", 105, "c01d", 104, "c01(", 104, "(c0d#", 105, "(c#", 103, "r11", 102, "r1#", 102,
            "(c0d0e0f0", 109, "(c4", 102, "(c#4", 103, "(c0d4d0)1", 104
        };
        for (int i = 0; i < faults.length; i += 2) {
            due("text " + faults[i], (Integer) faults[i + 1], x.tell(0, (String) faults[i]));
        }
        due("no tune", 0, x.told(0, 0));
        String good = "c01c#02d03d#04e05e#06f07f#08g09g#01a02a#03b01b#31";
        due("all notes", 0, x.tell(0, good));
        due("all notes: lowest", 0, x.told(0, 3));
        due("all notes: highest", 48, x.told(0, 4));
    }

    private static void faultsOfSense() {
        sentence("promise 9");
        Tower x = new Tower();
        Object[] faults = {
            "(c0d0e0f0g0)1", 209, "(c#0d#0e0f#0g#0)1", 212, "(c0d0e0f0c0)1", 209, "(c0d0e0f0g", 209,
            "r1(c0d0e0f0b0)1", 211, "(c0c0)1", 303, "(c0d0c0)1", 305, "(c0d0e0c0)1", 307, "(e#0f0)1", 304,
            "(c1b#0)1", 303, "(c0c0", 303, "(c0c", 104, "(c0c#", 105, "(c#0c#0)1", 304, "r1(d0d0)1", 305,
            "r9r9r9r9r9r9r9r2", 415, "r9r9r9r9r9r9r9r9", 415, "r9r9r9r9r9r9r9r1r1", 417, "r9r9r9r9r9r9r9r1x", 116,
            "r9r9r9r9r9r9r9(c0d0)2", 420, "r9r9r9r9r9r9r9c#02x", 417
        };
        for (int i = 0; i < faults.length; i += 2) {
            due("text " + faults[i], (Integer) faults[i + 1], x.tell(0, (String) faults[i]));
        }
        due("64", 0, x.tell(0, "r9r9r9r9r9r9r9r1"));
        due("lengths", 64, x.told(0, 2));
        due("like pitches in other units", 0, x.tell(0, "(c0d0)1(c0d0)1c01c01d01"));
        due("a tone apart", 0, x.tell(0, "(c0c#0c1c#1)1"));
    }

    private static void shifts() {
        sentence("promise 10");
        Tower x = new Tower();
        x.tell(0, "c21");
        x.tell(1, "r5");
        x.tell(2, "(c2e2)1");
        due("no bells", -100, x.shift(0));
        due("no notes", 0, x.shift(1));
        due("no tune", -101, x.shift(3));
        due("no tune", -101, x.shift(6));
        for (int far : FAR) {
            due("no tune", -101, x.shift(far));
        }
        x.bell(0, 1, 1);
        due("farthest below", -24, x.shift(0));
        x.bell(20, 1, 1);
        due("nearer below", -4, x.shift(0));
        x.bell(28, 1, 1);
        due("as near above", 4, x.shift(0));
        x.crack(2, true);
        due("cracked", -4, x.shift(0));
        x.bell(27, 1, 1);
        due("nearer above", 3, x.shift(0));
        x.bell(24, 1, 1);
        due("at once", 0, x.shift(0));
        due("both notes", -4, x.shift(2));
        x.crack(4, true);
        due("not both notes", -100, x.shift(2));
        x.crack(2, false);
        due("other notes", -100, x.shift(2));
        Tower y = new Tower();
        y.bell(24, 1, 1);
        y.tell(0, "c01");
        y.tell(1, "b#31");
        y.tell(2, "c#41");
        y.tell(3, "c#01b01");
        due("farthest above", 24, y.shift(0));
        due("pitch 48", -24, y.shift(1));
        due("never told", -101, y.shift(2));
        due("none", -100, y.shift(3));
        Tower z = new Tower();
        z.bell(25, 1, 1);
        z.tell(0, "c01");
        due("too far above", -100, z.shift(0));
        z.tell(0, "d#31");
        due("below", -14, z.shift(0));
        z.bell(40, 1, 1);
        z.tell(0, "b#31");
        due("from 48", -8, z.shift(0));
    }

    private static void set() {
        sentence("promise 11");
        Tower x = new Tower();
        x.bell(12, 10, 1);
        x.bell(16, 10, 1);
        x.tell(0, "c02e03(c0e0)4r1");
        due("set", 4, x.set(0, 30));
        due("pins by the shift, round the ring", "0:3=0 0:30=0 1:0=0 1:3=0", x.pins());
        due("again", 0, x.set(0, 30));
        due("elsewhere", 6, x.set(0, 1));
        due("pins", "0:1=0 0:6=0 1:3=0 1:6=0", x.pins());
        due("moved ever", 10, x.count(9));
        for (int far : FAR) {
            due("no such tune", -1, x.set(far, 0));
            due("no such hole", -1, x.set(0, far));
        }
        due("never told", -1, x.set(1, 0));
        due("no such tune", -1, x.set(6, 0));
        due("no such hole", -1, x.set(0, 32));
        x.force(19);
        due("force", -1, x.set(0, 1));
        x.force(20);
        x.crack(0, true);
        due("no shift", -1, x.set(0, 1));
        x.crack(0, false);
        due("pins stay", "0:1=0 0:6=0 1:3=0 1:6=0", x.pins());
        due("moved ever", 10, x.count(9));
        x.tell(1, "r9");
        due("rests take all out", 4, x.set(1, 31));
        due("pins", 0, x.count(6));
        due("moved ever", 14, x.count(9));
        x.bell(20, 10, 1);
        x.pin(2, 9, true);
        x.crack(2, true);
        due("pins of a cracked bell go, too", 5, x.set(0, 1));
    }

    private static void setChoosesHammers() {
        sentence("promise 11");
        Tower x = new Tower();
        x.bell(5, 1, 1);
        x.bell(0, 1, 3);
        x.tell(0, "c01c01c01c01r4");
        x.rest(4);
        due("too near for three", -1, x.set(0, 0));
        x.tell(0, "c01c01c02c01r4");
        x.rest(5);
        due("four in five holes", -1, x.set(0, 0));
        x.rest(3);
        due("set", 4, x.set(0, 0));
        due("least row", "1:0=0 1:4=0 2:1=0 3:2=0", x.pins());
        x.holes(32);
        x.pin(3, 0, true);
        due("a pin stands on the last hammer", 3, x.set(0, 0));
        due("it decides", "1:1=0 1:4=0 2:2=0 3:0=0", x.pins());
        x.holes(32);
        x.pin(2, 1, true);
        x.pin(1, 2, true);
        due("two pins", 2, x.set(0, 0));
        due("they decide", "1:2=0 2:1=0 2:4=0 3:0=0", x.pins());
        x.tell(1, "c06r1c01");
        x.holes(8);
        x.rest(3);
        due("round the ring", 2, x.set(1, 0));
        due("two hammers", "1:0=0 2:7=0", x.pins());
        x.rest(1);
        x.holes(8);
        due("rest 1", 2, x.set(1, 4));
        due("one hammer", "1:3=0 1:4=0", x.pins());
        ringOfFive();
        twelveStrokes();
        bellByBell();
    }

    /** Five strokes all round a ring: the first and the last ones are neighbours. */
    private static void ringOfFive() {
        Tower x = new Tower();
        x.bell(0, 1, 3);
        x.holes(10);
        x.rest(3);
        x.tell(0, "c02c02c02c02c02");
        due("odd ring", 5, x.set(0, 0));
        due("least row", "0:0=0 0:4=0 1:2=0 1:6=0 2:8=0", x.pins());
        x.holes(10);
        x.pin(0, 8, true);
        due("a pin behind", 4, x.set(0, 0));
        due("least row of those", "0:2=0 0:8=0 1:0=0 1:4=0 2:6=0", x.pins());
        x.rest(5);
        due("all too near", -1, x.set(0, 0));
    }

    private static void twelveStrokes() {
        Tower x = new Tower();
        x.bell(0, 1, 3);
        x.holes(12);
        x.tell(0, "c01".repeat(12));
        due("twelve in a full ring", 12, x.set(0, 5));
        due("three by three", "0:2=0 0:5=0 0:8=0 0:11=0 1:0=0 1:3=0 1:6=0 1:9=0 2:1=0 2:4=0 2:7=0 2:10=0", x.pins());
        due("a step on", 0, x.set(0, 8));
        due("a step on", 0, x.set(0, 6));
        due("pins stay", "0:2=0 0:5=0 0:8=0 0:11=0 1:0=0 1:3=0 1:6=0 1:9=0 2:1=0 2:4=0 2:7=0 2:10=0", x.pins());
        x.holes(11);
        x.tell(1, "c01".repeat(11));
        due("eleven in a full ring", -1, x.set(1, 5));
        x.holes(13);
        x.rest(2);
        due("rest 2", 12, x.set(0, 0));
        due("two of three", "0:0=0 0:2=0 0:4=0 0:6=0 0:8=0 0:10=0 1:1=0 1:3=0 1:5=0 1:7=0 1:9=0 1:11=0", x.pins());
    }

    private static void bellByBell() {
        Tower x = new Tower();
        x.bell(7, 1, 2);
        x.bell(0, 1, 2);
        x.tell(0, "(c0g0)1(c0g0)1");
        x.pin(1, 0, true);
        x.pin(3, 1, true);
        due("each bell by itself", 2, x.set(0, 0));
        due("pins", "0:1=0 1:0=0 2:0=0 3:1=0", x.pins());
    }

    private static void setKeepsPins() {
        sentence("promise 11");
        Tower x = new Tower();
        x.bell(0, 1, 2);
        x.tell(0, "c04c04");
        x.tell(1, "c04r4c04");
        x.set(0, 0);
        x.turn(0, 32);
        x.turn(0, 4);
        due("strikes", "0:0=2 0:4=1", x.pins());
        due("one in common", 2, x.set(1, 0));
        due("it keeps its strikes", "0:0=2 0:8=0", x.pins());
        x.life(2);
        due("broken", 1, x.count(7));
        due("broken ones stand, too", 2, x.set(0, 0));
        due("and stay broken", "0:0=2 0:4=0", x.pins());
        x.pin(0, 0, false);
        x.pin(1, 0, true);
        x.turn(0, 1);
        x.turn(0, 32);
        due("broken on the second hammer", "0:4=1 1:0=2", x.pins());
        due("nothing moves", 0, x.set(0, 0));
        due("pins", "0:4=1 1:0=2", x.pins());
    }

    private static void moves() {
        sentence("promise 12");
        Tower x = new Tower();
        x.bell(0, 5, 2);
        x.tell(0, "c02c02");
        due("moves", 2, x.moves(0, 0));
        due("nothing is set", 0, x.count(6));
        due("nothing is counted", 0, x.count(9));
        x.set(0, 0);
        due("none", 0, x.moves(0, 0));
        due("half", 2, x.moves(0, 2));
        due("all", 4, x.moves(0, 9));
        due("pins", "0:0=0 1:2=0", x.pins());
        x.pin(0, 20, true);
        due("one out", 1, x.moves(0, 0));
        due("no tune", -1, x.moves(1, 0));
        due("no hole", -1, x.moves(0, 32));
        for (int far : FAR) {
            due("no tune", -1, x.moves(far, 0));
            due("no hole", -1, x.moves(0, far));
        }
        x.force(4);
        due("can't be", -1, x.moves(0, 0));
    }

    private static void why() {
        sentence("promise 13");
        Tower x = new Tower();
        x.holes(12);
        x.force(2);
        x.rest(2);
        x.tell(0, "(c0e0)1" + "c01".repeat(12));
        due("no shift", 1, x.why(0, 0));
        x.bell(0, 2, 1);
        x.bell(4, 1, 1);
        due("too long", 2, x.why(0, 0));
        x.holes(13);
        due("force", 3, x.why(0, 0));
        x.force(3);
        due("strokes", 4, x.why(0, 0));
        x.tell(0, "(c0e0)1" + "c01".repeat(11));
        due("hammers", 5, x.why(0, 0));
        x.rest(1);
        due("it can", 0, x.why(0, 0));
        due("at the last hole", 0, x.why(0, 12));
        due("nothing is set", 0, x.count(6));
        due("no hole", -1, x.why(0, 13));
        due("no tune", -1, x.why(1, 0));
        due("no tune", -1, x.why(6, 0));
        for (int far : FAR) {
            due("no tune", -1, x.why(far, 0));
            due("no hole", -1, x.why(0, far));
        }
        x.holes(12);
        due("as long as the ring", 0, x.why(0, 0));
        x.tell(1, "c02r9r2");
        due("longer by a rest", 2, x.why(1, 0));
        x.crack(0, true);
        due("shifted to the other bell", 4, x.shift(1));
        due("still too long", 2, x.why(1, 0));
        due("no shift for both notes", 1, x.why(0, 0));
    }

    private static void whyHammers() {
        sentence("promise 13");
        Tower x = new Tower();
        x.bell(0, 1, 1);
        x.bell(2, 1, 2);
        x.holes(9);
        x.rest(3);
        x.tell(0, "c03c03c03");
        due("just far enough", 0, x.why(0, 0));
        x.tell(1, "c02");
        due("alone it is far enough", 0, x.why(1, 8));
        x.tell(1, "c03c03c02");
        due("as the ring goes on", 0, x.why(1, 4));
        x.tell(2, "c03c04c02");
        due("too near behind the ring's end", 5, x.why(2, 4));
        x.tell(3, "c02c04");
        due("too near", 5, x.why(3, 0));
        x.tell(4, "c01d01d01");
        due("two hammers", 0, x.why(4, 0));
        x.tell(4, "c01d01d01d01");
        due("three strokes", 5, x.why(4, 0));
        x.tell(4, "c01d03d03d02");
        due("two and one", 0, x.why(4, 0));
        x.rest(4);
        due("an odd ring of two", 5, x.why(4, 0));
        x.force(1);
        x.tell(5, "(c0d0)1c01");
        due("force first", 3, x.why(5, 0));
        x.force(2);
        due("hammers then", 5, x.why(5, 0));
    }

    private static void nearest() {
        sentence("promise 14");
        Tower x = new Tower();
        x.bell(0, 5, 1);
        x.bell(4, 5, 1);
        due("no tunes", -1, x.nearest(0));
        x.tell(5, "c04e04");
        due("the only one", 5, x.nearest(0));
        x.tell(3, "c04c04");
        due("of like ones the lowest", 3, x.nearest(0));
        x.tell(4, "e04");
        due("fewest", 4, x.nearest(0));
        x.set(5, 0);
        due("that which stands", 5, x.nearest(0));
        due("all are out and one is in", 4, x.nearest(1));
        x.tell(1, "(c0e0)1");
        x.force(9);
        due("one that can't be set", 5, x.nearest(0));
        x.force(4);
        due("none can be set", -1, x.nearest(0));
        x.tell(0, "r1");
        due("rests alone", 0, x.nearest(31));
        due("no such hole", -1, x.nearest(32));
        for (int far : FAR) {
            due("no such hole", -1, x.nearest(far));
        }
        due("pins stay", "0:0=0 1:4=0", x.pins());
        due("moved ever", 2, x.count(9));
    }

    private static void pins() {
        sentence("promise 15");
        Tower x = new Tower();
        due("no track", false, x.pin(0, 0, true));
        x.bell(0, 5, 2);
        due("none there", false, x.pin(0, 0, false));
        due("put in", true, x.pin(0, 0, true));
        due("there already", false, x.pin(0, 0, true));
        due("nearer than 3", false, x.pin(0, 1, true));
        due("nearer than 3", false, x.pin(0, 2, true));
        due("nearer than 3 behind", false, x.pin(0, 31, true));
        due("nearer than 3 behind", false, x.pin(0, 30, true));
        due("the other track", true, x.pin(1, 1, true));
        due("3 off", true, x.pin(0, 3, true));
        due("3 off behind", true, x.pin(0, 29, true));
        due("pins", "0:0=0 0:3=0 0:29=0 1:1=0", x.pins());
        due("no such track", false, x.pin(2, 9, true));
        due("no such hole", false, x.pin(0, 32, true));
        for (int far : FAR) {
            due("no such track", false, x.pin(far, 9, true));
            due("no such hole", false, x.pin(0, far, true));
            due("no such track", false, x.pin(far, 9, false));
            due("no such hole", false, x.pin(0, far, false));
        }
        x.turn(0, 4);
        x.rest(8);
        due("taken out, however near", true, x.pin(0, 0, false));
        due("gone", -1, x.strikes(0, 0));
        due("nearer than 8", false, x.pin(0, 0, true));
        x.rest(3);
        x.life(1);
        due("put in without strikes", true, x.pin(0, 0, true));
        due("strikes", 0, x.strikes(0, 0));
        due("nearer than 3 to a broken one", false, x.pin(0, 4, true));
        x.rest(1);
        due("with rest 1", true, x.pin(0, 4, true));
        due("not counted", 0, x.count(9));
        due("pins", 5, x.count(6));
        x.crack(0, true);
        due("a cracked bell's pin", true, x.pin(0, 9, true));
    }

    private static void mend() {
        sentence("promise 16");
        Tower x = new Tower();
        due("no track", -1, x.mend(0, 0));
        x.bell(0, 5, 1);
        due("no pin", -1, x.mend(0, 0));
        x.pin(0, 0, true);
        due("new", 0, x.mend(0, 0));
        x.life(2);
        x.turn(0, 640);
        due("broken", 1, x.count(7));
        due("made new", 2, x.mend(0, 0));
        due("strikes", 0, x.strikes(0, 0));
        due("whole", 0, x.count(7));
        due("heard again", 1, x.turn(0, 1));
        due("no hole", -1, x.mend(0, 32));
        due("no track", -1, x.mend(1, 0));
        for (int far : FAR) {
            due("no hole", -1, x.mend(0, far));
            due("no track", -1, x.mend(far, 0));
        }
        due("strikes stay", 1, x.strikes(0, 0));
    }

    private static void turn() {
        sentence("promise 17");
        Tower x = new Tower();
        x.bell(0, 5, 2);
        x.bell(1, 5, 1);
        x.holes(10);
        x.pin(0, 9, true);
        x.pin(1, 9, true);
        x.pin(2, 0, true);
        due("before it", 0, x.turn(1, 8));
        due("both hammers", 2, x.turn(9, 1));
        due("round the ring", 3, x.turn(9, 2));
        due("the other", 1, x.turn(0, 1));
        due("640", 3 * 64, x.turn(5, 640));
        due("strikes", "0:9=66 1:9=66 2:0=66", x.pins());
        x.crack(0, true);
        due("cracked ones aren't heard", 1, x.turn(0, 10));
        due("but strike", 67, x.strikes(0, 9));
        x.life(68);
        due("one more of it", 1, x.turn(0, 30));
        due("it broke", 68, x.strikes(0, 9));
        x.crack(0, false);
        due("broken", 0, x.turn(0, 640));
        due("strikes stay", "0:9=68 1:9=68 2:0=68", x.pins());
        x.life(60);
        due("more strikes than it bears", 3, x.count(7));
        due("no strike", 0, x.turn(0, 10));
        due("no hole", -1, x.turn(10, 1));
        due("no number", -1, x.turn(0, 0));
        due("no number", -1, x.turn(0, 641));
        for (int far : FAR) {
            due("no hole", -1, x.turn(far, 1));
            due("no number", -1, x.turn(0, far));
        }
    }

    private static void read() {
        sentence("promise 18");
        Tower x = new Tower();
        x.bell(47, 5, 2);
        x.bell(13, 5, 2);
        x.bell(0, 5, 1);
        x.bell(22, 5, 1);
        x.holes(64);
        due("nothing", "r9r9r9r9r9r9r9r1", x.readBack(63, 64));
        due("nothing, short", "r1", x.readBack(0, 1));
        x.pin(0, 5, true);
        due("a rest first", "r5b34", x.readBack(0, 9));
        due("just a note", "b31", x.readBack(5, 1));
        due("nine", "b39", x.readBack(5, 9));
        due("ten", "b39r1", x.readBack(5, 10));
        due("all round", "b39r9r9r9r9r9r9r1", x.readBack(5, 64));
        due("before its end", "r9r9r9r9r9r9r5b35", x.readBack(10, 64));
        x.pin(1, 5, true);
        due("a bell once", "b31", x.readBack(5, 1));
        x.pin(2, 5, true);
        x.pin(4, 5, true);
        due("by pitches", "(c0c#1b3)2", x.readBack(5, 2));
        x.pin(5, 5, true);
        x.pin(3, 63, true);
        due("round the end", "c#16(c0c#1a#1b3)1", x.readBack(63, 7));
        due("strikes stay", 0, x.strikes(0, 5));
        x.crack(1, true);
        due("cracked ones aren't heard", "r6(c0a#1b3)1", x.readBack(63, 7));
        x.life(1);
        x.turn(5, 1);
        due("nor broken ones", "r7", x.readBack(63, 7));
        x.mend(1, 5);
        due("made new", "r6b31", x.readBack(63, 7));
        due("bytes", 5, x.read(63, 7));
        due("no hole", -1, x.read(64, 1));
        due("no number", -1, x.read(0, 0));
        due("no number", -1, x.read(0, 65));
        for (int far : FAR) {
            due("no hole", -1, x.read(far, 1));
            due("no number", -1, x.read(0, far));
        }
        due("what was told stays", 'r', x.octet(0));
        x.holes(8);
        due("what was told stays", 'b', x.octet(2));
        due("N is the most", -1, x.read(0, 9));
        due("N", 2, x.read(7, 8));
        allNotes();
    }

    private static void allNotes() {
        String[] names = {"c", "c#", "d", "d#", "e", "f", "f#", "g", "g#", "a", "a#", "b"};
        for (int octave = 0; octave < 4; octave++) {
            Tower x = new Tower();
            StringBuilder chord = new StringBuilder("(");
            for (int step = 0; step < 12; step++) {
                x.bell(12 * octave + 11 - step, 1, 1);
                x.pin(step, 0, true);
                chord.append(names[step]).append(octave);
            }
            due("twelve bells at once", chord.append(")7").toString(), x.readBack(0, 7));
        }
    }

    private static void octets() {
        sentence("promise 19");
        Tower x = new Tower();
        due("before read", -1, x.octet(0));
        x.read(0, 20);
        due("0", 'r', x.octet(0));
        due("1", '9', x.octet(1));
        due("5", '2', x.octet(5));
        due("6", -1, x.octet(6));
        for (int far : FAR) {
            due("none such", -1, x.octet(far));
        }
        x.read(0, 1);
        due("shorter", '1', x.octet(1));
        due("behind the shorter", -1, x.octet(2));
        x.read(0, 0);
        due("refused", '1', x.octet(1));
    }

    private static void strikes() {
        sentence("promise 20");
        Tower x = new Tower();
        due("no track", -1, x.strikes(0, 0));
        x.bell(0, 1, 1);
        due("no pin", -1, x.strikes(0, 0));
        x.pin(0, 31, true);
        due("new", 0, x.strikes(0, 31));
        x.turn(30, 34);
        due("twice", 2, x.strikes(0, 31));
        due("no track", -1, x.strikes(1, 31));
        due("no hole", -1, x.strikes(0, 32));
        for (int far : FAR) {
            due("no track", -1, x.strikes(far, 31));
            due("no hole", -1, x.strikes(0, far));
        }
        x.pin(0, 31, false);
        due("out", -1, x.strikes(0, 31));
        x.pin(0, 31, true);
        due("new", 0, x.strikes(0, 31));
    }

    private static void look() {
        sentence("promise 21");
        Tower x = new Tower();
        x.bell(40, 7, 2);
        x.bell(3, 98, 3);
        x.pin(0, 0, true);
        x.pin(1, 0, true);
        x.pin(2, 0, true);
        x.pin(4, 9, true);
        x.pin(4, 20, true);
        x.life(1);
        x.turn(9, 1);
        x.crack(1, true);
        int[][] due = {{40, 7, 2, 0, 0, 2, 0}, {3, 98, 3, 1, 2, 3, 1}};
        for (int b = 0; b < 2; b++) {
            for (int what = 0; what < 7; what++) {
                due("look " + b + " " + what, due[b][what], x.look(b, what));
            }
            due("look 7", -1, x.look(b, 7));
            for (int far : FAR) {
                due("look " + far, -1, x.look(b, far));
                due("look at " + far, -1, x.look(far, b));
            }
        }
        due("no such bell", -1, x.look(2, 0));
    }

    private static void told() {
        sentence("promise 22");
        Tower x = new Tower();
        int[] none = {0, 0, 0, -1, -1, -1};
        int[] some = {4, 4, 14, 2, 46, -1};
        int[] rests = {2, 0, 10, -1, -1, -1};
        x.tell(5, "f#12(a#3d0)3r1e18");
        x.tell(1, "r9r1");
        for (int what = 0; what < 6; what++) {
            due("none " + what, none[what], x.told(0, what));
            due("some " + what, some[what], x.told(5, what));
            due("rests " + what, rests[what], x.told(1, what));
            due("no such tune", -1, x.told(6, what));
        }
        for (int far : FAR) {
            due("no such tune", -1, x.told(far, 0));
            due("no such question", -1, x.told(5, far));
        }
    }

    private static void count() {
        sentence("promise 23");
        Tower x = new Tower();
        x.bell(0, 5, 2);
        x.bell(2, 5, 3);
        x.holes(20);
        x.rest(2);
        x.force(77);
        x.life(5);
        x.tell(0, "c02d02");
        x.set(0, 0);
        x.set(0, 1);
        x.pin(4, 10, true);
        x.turn(1, 81);
        x.feed(0, 0, 0, 0, 0);
        int[] due = {2, 5, 20, 2, 77, 5, 3, 1, 20, 6};
        for (int what = 0; what < due.length; what++) {
            due("count " + what, due[what], x.count(what));
        }
        due("count 10", -1, x.count(10));
        for (int far : FAR) {
            due("count " + far, -1, x.count(far));
        }
        x.holes(20);
        due("pins out by holes()", 0, x.count(6));
        due("broken", 0, x.count(7));
        due("aren't moved by set()", 6, x.count(9));
    }
}
