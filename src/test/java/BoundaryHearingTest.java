/** The edges of turning the drum and of reading back what would be heard. */
public final class BoundaryHearingTest extends Check {
    private static final int LEAST = Integer.MIN_VALUE;
    private static final int MOST = Integer.MAX_VALUE;

    public static void main(String[] args) {
        turnsFromOneToSixHundredForty();
        turnsFromAHoleOn();
        turnsPastBreaking();
        heardOnceForEachPin();
        crackedIsNotHeard();
        readsFromOneToN();
        firstHoleBeginsAUnit();
        restIfNothingIs();
        noteOrNotes();
        notesByPitches();
        bellOnce();
        twelveBellsAtOnce();
        longerThanNine();
        restsLongerThanNine();
        unitsUpToTheEnd();
        readsRoundTheRing();
        readsWhatWouldBeHeard();
        readingChangesNoPin();
        notesAreWritten();
        octets();
        octetsOfTheLastRead();
        longestText();
        textCanBeToldAgain();
        end();
    }

    private static void turnsFromOneToSixHundredForty() {
        sentence("over so many HOLES (1 to 640)");
        Tower x = new Tower();
        x.bell(0, 1, 1);
        x.holes(8);
        x.pin(0, 0, true);
        due("0", NONE, x.turn(0, 0));
        due("641", NONE, x.turn(0, 641));
        due("-1", NONE, x.turn(0, -1));
        due("least int", NONE, x.turn(0, LEAST));
        due("greatest int", NONE, x.turn(0, MOST));
        due("nothing struck", 0, x.strikes(0, 0));
        due("1", 1, x.turn(0, 1));
        due("1", 1, x.strikes(0, 0));
        due("640", 80, x.turn(0, 640));
        due("640", 81, x.strikes(0, 0));
        due("639", 79, x.turn(1, 639));
        due("640 from behind it", 80, x.turn(1, 640));
        x.holes(64);
        x.pin(0, 63, true);
        due("640 of 64", 10, x.turn(0, 640));
        due("639 of 64", 9, x.turn(0, 639));
    }

    private static void turnsFromAHoleOn() {
        sentence("from a HOLE on over so many HOLES");
        Tower x = new Tower();
        x.bell(0, 1, 1);
        x.holes(9);
        x.pin(0, 4, true);
        due("up to before it", 0, x.turn(0, 4));
        due("up to it", 1, x.turn(0, 5));
        due("from it", 1, x.turn(4, 1));
        due("from behind it, round", 0, x.turn(5, 8));
        due("from behind it, round to it", 1, x.turn(5, 9));
        due("from it, round", 1, x.turn(4, 9));
        due("from it, round to it again", 2, x.turn(4, 10));
        due("strikes", 6, x.strikes(0, 4));
        due("hole -1", NONE, x.turn(-1, 1));
        due("hole 9", NONE, x.turn(9, 1));
        due("no such hole, no such number", NONE, x.turn(9, 641));
        due("strikes", 6, x.strikes(0, 4));
    }

    private static void turnsPastBreaking() {
        sentence("A PIN strikes each time that its HOLE passes");
        Tower x = new Tower();
        x.bell(0, 1, 2);
        x.holes(8);
        x.life(79);
        x.pin(0, 0, true);
        due("79 of 80 times", 79, x.turn(0, 640));
        due("broken", 1, x.count(7));
        x.life(80);
        x.pin(1, 3, true);
        due("one more, and 80 of the other", 81, x.turn(0, 640));
        due("both are broken", 2, x.count(7));
        x.life(81);
        due("one more of both", 2, x.turn(0, 640));
        due("strikes", "0:0=81 1:3=81", x.pins());
    }

    private static void heardOnceForEachPin() {
        sentence("HEARD is what strikes on a BELL that is not CRACKED, once for each PIN");
        Tower x = new Tower();
        x.bell(0, 1, 3);
        x.bell(1, 1, 1);
        for (int track = 0; track < 4; track++) {
            due("heard", track, x.turn(7, 1));
            x.pin(track, 7, true);
        }
        due("all", 4, x.turn(7, 1));
        due("beside it", 0, x.turn(8, 31));
    }

    private static void crackedIsNotHeard() {
        sentence("all PINS strike");
        Tower x = new Tower();
        x.bell(0, 1, 2);
        x.bell(1, 1, 1);
        x.life(3);
        x.pin(0, 7, true);
        x.pin(1, 7, true);
        x.pin(2, 7, true);
        x.crack(0, true);
        due("the whole one", 1, x.turn(7, 1));
        due("but all strike", "0:7=1 1:7=1 2:7=1", x.pins());
        x.crack(1, true);
        due("none", 0, x.turn(7, 1));
        due("but all strike", "0:7=2 1:7=2 2:7=2", x.pins());
        x.turn(7, 33);
        due("and break", 3, x.count(7));
        due("no more than L", "0:7=3 1:7=3 2:7=3", x.pins());
        x.crack(0, false);
        due("recast, but its pins are broken", 0, x.turn(7, 1));
        x.mend(0, 7);
        due("made new", 1, x.turn(7, 1));
    }

    private static void readsFromOneToN() {
        sentence("READ BACK from a HOLE over so many HOLES (1 to N)");
        for (int n : new int[] {8, 9, 32, 64}) {
            Tower x = new Tower();
            x.holes(n);
            for (int hole : new int[] {0, n - 1}) {
                due("0", NONE, x.read(hole, 0));
                due("-1", NONE, x.read(hole, -1));
                due("N + 1", NONE, x.read(hole, n + 1));
                due("least int", NONE, x.read(hole, LEAST));
                due("greatest int", NONE, x.read(hole, MOST));
                due("1", "r1", x.readBack(hole, 1));
                due("N", 2 * ((n + 8) / 9), x.read(hole, n));
                due("N - 1", 2 * ((n + 7) / 9), x.read(hole, n - 1));
            }
            due("hole -1", NONE, x.read(-1, 1));
            due("hole N", NONE, x.read(n, 1));
        }
    }

    private static void firstHoleBeginsAUnit() {
        sentence("at the first HOLE, and at each other one in which something would be HEARD, begins a UNIT");
        Tower x = new Tower();
        x.bell(0, 1, 1);
        x.bell(2, 1, 1);
        x.rest(1);
        x.pin(0, 3, true);
        x.pin(1, 4, true);
        x.pin(0, 6, true);
        due("at the first one something is", "c01d02c01", x.readBack(3, 4));
        due("at the first one nothing is", "r1c01d02c01", x.readBack(2, 5));
        due("from within a unit", "r1c01", x.readBack(5, 2));
        due("up to where the next one begins", "c01d02", x.readBack(3, 3));
        due("the last hole has one", "d02c01", x.readBack(4, 3));
        due("the last hole but one has one", "d02c02", x.readBack(4, 4));
        due("alike ones side by side", true, x.pin(0, 7, true));
        due("are two units", "c01c01", x.readBack(6, 2));
    }

    private static void restIfNothingIs() {
        sentence("r if nothing is");
        Tower x = new Tower();
        due("no bells", "r9", x.readBack(31, 9));
        x.bell(0, 1, 1);
        due("no pins", "r8", x.readBack(31, 8));
        x.pin(0, 8, true);
        due("up to before the pin", "r8", x.readBack(0, 8));
        due("up to the pin", "r8c01", x.readBack(0, 9));
        due("the pin alone", "c01", x.readBack(8, 1));
        due("from behind the pin", "r1", x.readBack(9, 1));
    }

    private static void noteOrNotes() {
        sentence("the NOTE, if one BELL is; else all in ( ), by PITCHES");
        Tower x = new Tower();
        StringBuilder all = new StringBuilder();
        for (int b = 0; b < 6; b++) {
            x.bell(12 + b, 1, 1);
            x.pin(b, 0, true);
            all.append(new String[] {"c1", "c#1", "d1", "d#1", "e1", "f1"}[b]);
            due(b + 1 + " bells", b == 0 ? "c11" : "(" + all + ")1", x.readBack(0, 1));
        }
        for (int b = 0; b < 5; b++) {
            x.crack(b, true);
        }
        due("one is left", "f11", x.readBack(0, 1));
        x.crack(5, true);
        due("none is left", "r1", x.readBack(0, 1));
    }

    private static void notesByPitches() {
        sentence("by PITCHES");
        Tower x = new Tower();
        int[] pitches = {47, 0, 24, 11, 12, 23};
        for (int b = 0; b < pitches.length; b++) {
            x.bell(pitches[b], 1, 1);
            x.pin(b, 31, true);
        }
        due("not by bells", "(c0b0c1b1c2b3)1", x.readBack(31, 1));
        x.pin(1, 31, false);
        x.pin(0, 31, false);
        due("without the ends", "(b0c1b1c2)1", x.readBack(31, 1));
    }

    private static void bellOnce() {
        sentence("(a BELL once)");
        Tower x = new Tower();
        x.bell(4, 1, 3);
        x.bell(2, 1, 3);
        x.pin(0, 0, true);
        x.pin(1, 0, true);
        due("two hammers of one", "e01", x.readBack(0, 1));
        x.pin(2, 0, true);
        due("three hammers of one", "e01", x.readBack(0, 1));
        x.pin(4, 0, true);
        x.pin(5, 0, true);
        due("and two of another", "(d0e0)1", x.readBack(0, 1));
        due("but each pin is heard", 5, x.turn(0, 1));
    }

    private static void twelveBellsAtOnce() {
        sentence("else all in ( )");
        Tower x = new Tower();
        for (int b = 0; b < 12; b++) {
            x.bell(4 * (11 - b) + 3, 1, 1);
            x.pin(b, 0, true);
        }
        due("twelve", "(d#0g0b0d#1g1b1d#2g2b2d#3g3b3)1", x.readBack(0, 1));
    }

    private static void longerThanNine() {
        sentence("Of a UNIT that is longer than 9 HOLES the LENGTH is 9, and r with what is left of it (9 at most each) follow");
        Tower x = new Tower();
        x.holes(64);
        x.bell(0, 1, 1);
        x.pin(0, 60, true);
        String[] due = {"8", "c08", "9", "c09", "10", "c09r1", "17", "c09r8", "18", "c09r9", "19", "c09r9r1",
            "27", "c09r9r9", "28", "c09r9r9r1", "63", "c09r9r9r9r9r9r9", "64", "c09r9r9r9r9r9r9r1"};
        for (int i = 0; i < due.length; i += 2) {
            due(due[i] + " holes", due[i + 1], x.readBack(60, Integer.parseInt(due[i])));
        }
        x.pin(0, 5, true);
        due("9 up to the next one", "c09c01", x.readBack(60, 10));
        x.pin(0, 5, false);
        x.pin(0, 6, true);
        due("10 up to the next one", "c09r1c01", x.readBack(60, 11));
    }

    private static void restsLongerThanNine() {
        sentence("r with what is left of it (9 at most each) follow");
        Tower x = new Tower();
        x.holes(64);
        x.bell(0, 1, 1);
        x.bell(2, 1, 1);
        x.pin(0, 63, true);
        x.pin(1, 63, true);
        due("9 of rest", "r9(c0d0)1", x.readBack(54, 10));
        due("10 of rest", "r9r1(c0d0)1", x.readBack(53, 11));
        due("18 of rest", "r9r9(c0d0)1", x.readBack(45, 19));
        due("19 of rest", "r9r9r1(c0d0)1", x.readBack(44, 20));
        due("63 of rest", "r9r9r9r9r9r9r9(c0d0)1", x.readBack(0, 64));
        due("9 of ( )", "(c0d0)9", x.readBack(63, 9));
        due("10 of ( )", "(c0d0)9r1", x.readBack(63, 10));
        x.pin(0, 63, false);
        x.pin(1, 63, false);
        due("64 of rest", "r9r9r9r9r9r9r9r1", x.readBack(0, 64));
    }

    private static void unitsUpToTheEnd() {
        sentence("up to where the next one begins, or the end");
        Tower x = new Tower();
        x.bell(0, 1, 1);
        x.pin(0, 0, true);
        x.pin(0, 7, true);
        for (int n = 1; n <= 7; n++) {
            due(n + " holes", "c0" + n, x.readBack(0, n));
        }
        due("8 holes", "c07c01", x.readBack(0, 8));
        due("9 holes", "c07c02", x.readBack(0, 9));
    }

    private static void readsRoundTheRing() {
        sentence("(behind the last one comes 0)");
        Tower x = new Tower();
        x.holes(8);
        x.bell(0, 1, 1);
        x.bell(2, 1, 1);
        x.pin(0, 7, true);
        x.pin(1, 0, true);
        due("over the end", "c01d01", x.readBack(7, 2));
        due("all from 7", "c01d07", x.readBack(7, 8));
        due("all from 0", "d07c01", x.readBack(0, 8));
        due("all from 1", "r6c01d01", x.readBack(1, 8));
        due("not to itself again", "r6c01", x.readBack(1, 7));
    }

    private static void readsWhatWouldBeHeard() {
        sentence("the TEXT of what would be HEARD then");
        Tower x = new Tower();
        x.bell(0, 1, 1);
        x.bell(2, 1, 1);
        x.life(2);
        x.pin(0, 0, true);
        x.pin(1, 0, true);
        x.turn(0, 1);
        due("1 of 2 strikes made", "(c0d0)1", x.readBack(0, 1));
        x.turn(0, 1);
        due("2 of 2", "r1", x.readBack(0, 1));
        x.mend(0, 0);
        due("one made new", "c01", x.readBack(0, 1));
        x.crack(0, true);
        due("its bell cracked", "r1", x.readBack(0, 1));
        x.crack(0, false);
        due("recast", "c01", x.readBack(0, 1));
        x.life(3);
        due("L above 2", "(c0d0)1", x.readBack(0, 1));
        x.life(1);
        due("L 1", "c01", x.readBack(0, 1));
    }

    private static void readingChangesNoPin() {
        sentence("READ BACK: how many bytes (told by octet())");
        Tower x = new Tower();
        x.bell(0, 1, 1);
        x.life(1);
        x.pin(0, 0, true);
        due("bytes", 9, x.read(0, 32));
        due("bytes again", 9, x.read(0, 32));
        due("strikes", 0, x.strikes(0, 0));
        due("broken", 0, x.count(7));
        due("heard", 1, x.turn(0, 32));
        due("bytes of rests", 8, x.read(0, 32));
    }

    private static void notesAreWritten() {
        sentence("NOTES are written c c# d d# e f f# g g# a a# b");
        String[] names = {"c", "c#", "d", "d#", "e", "f", "f#", "g", "g#", "a", "a#", "b"};
        for (int pitch = 0; pitch <= 47; pitch++) {
            Tower x = new Tower();
            x.bell(pitch, 1, 1);
            x.pin(0, 0, true);
            due("pitch " + pitch, names[pitch % 12] + pitch / 12 + "2", x.readBack(0, 2));
        }
    }

    private static void octets() {
        sentence("Byte i of what read() told last; NONE: there is none such");
        Tower x = new Tower();
        due("before any read()", NONE, x.octet(0));
        due("before any read(), -1", NONE, x.octet(-1));
        due("bytes", 4, x.read(0, 10));
        due("-1", NONE, x.octet(-1));
        due("0", 'r', x.octet(0));
        due("1", '9', x.octet(1));
        due("2", 'r', x.octet(2));
        due("3", '1', x.octet(3));
        due("4", NONE, x.octet(4));
        due("least int", NONE, x.octet(LEAST));
        due("greatest int", NONE, x.octet(MOST));
    }

    private static void octetsOfTheLastRead() {
        sentence("what read() told last");
        Tower x = new Tower();
        x.bell(11, 1, 1);
        x.pin(0, 9, true);
        x.read(0, 32);
        due("longer", "r9b09r9r5", x.lastRead(9));
        x.read(9, 1);
        due("shorter", "b01", x.lastRead(3));
        due("nothing of the longer", NONE, x.octet(3));
        due("refused", NONE, x.read(9, 33));
        due("refused", NONE, x.read(32, 1));
        due("refused", NONE, x.read(9, 0));
        due("still", "b01", x.lastRead(3));
        due("still no more", NONE, x.octet(3));
        x.pin(0, 9, false);
        x.crack(0, true);
        x.holes(8);
        due("still", "b01", x.lastRead(3));
    }

    /** As much text as 512 calls can lead to: each hole has some notes, each of three bytes. */
    private static void longestText() {
        sentence("how many bytes");
        Tower x = new Tower();
        int[] sharps = {1, 3, 6, 8, 10, 13, 15, 18, 20, 22, 25, 27};
        String[] names = {"c#0", "d#0", "f#0", "g#0", "a#0", "c#1", "d#1", "f#1", "g#1", "a#1", "c#2", "d#2"};
        for (int pitch : sharps) {
            x.bell(pitch, 1, 1);
        }
        x.holes(64);
        x.rest(1);
        for (int cell = 0; cell < 64 * 7; cell++) {
            x.pin(cell / 64, cell % 64, true);
        }
        for (int track = 7; track < 12; track++) {
            x.pin(track, 63, true);
        }
        int first = 63 * (7 * 3 + 3);
        due("bytes", first + 12 * 3 + 3, x.read(0, 64));
        String last = "(" + String.join("", names) + ")1";
        for (int i = 0; i < last.length(); i++) {
            due("byte " + i + " of the last unit", last.charAt(i), x.octet(first + i));
        }
        due("none behind", NONE, x.octet(first + last.length()));
    }

    private static void textCanBeToldAgain() {
        sentence("the TEXT of what would be HEARD");
        Tower x = new Tower();
        for (int pitch : new int[] {1, 2, 12, 23}) {
            x.bell(pitch, 1, 2);
        }
        String text = "r2(c#0d0c1b1)9r3d01c12";
        x.tell(0, text);
        x.set(0, 25);
        due("as it was told", text, x.readBack(25, 17));
    }
}
