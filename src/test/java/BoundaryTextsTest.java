/** The edges of a tune's text, its faults, and how the tape is taken as a tune. */
public final class BoundaryTextsTest extends Check {
    private static final int LEAST = Integer.MIN_VALUE;
    private static final int MOST = Integer.MAX_VALUE;

    public static void main(String[] args) {
        tunesAreSix();
        neverToldIsNone();
        sixtyBytes();
        notSoManyBytes();
        bytesBehindCountForNothing();
        tapeIsEmptyThen();
        tuneStaysAtAFault();
        toldAnew();
        noBlanks();
        oneUnitAtLeast();
        mostUnits();
        twoToFourNotes();
        lengthsFromOneToNine();
        letters();
        digits();
        sharps();
        pitchesOfNotes();
        otherBytes();
        theEndToo();
        theEndAtSixty();
        fifthNote();
        pitchInTheSameChord();
        pitchAskedAtItsDigit();
        lengthsAboveSixtyFour();
        firstFromTheLeft();
        end();
    }

    /** Answer of tune() for a text on a new object. */
    private static int faultOf(String text) {
        return new Tower().tell(0, text);
    }

    private static void faults(Object... textsAndFaults) {
        for (int i = 0; i + 1 < textsAndFaults.length; i += 2) {
            String text = (String) textsAndFaults[i];
            due(text, (Integer) textsAndFaults[i + 1], faultOf(text));
        }
    }

    private static void tunesAreSix() {
        sentence("TUNES 0 to 5 are kept");
        Tower x = new Tower();
        for (int t : new int[] {-1, 6, LEAST, MOST}) {
            x.feedText("r1");
            due("tune " + t, NONE, x.tune(t, 2));
            due("units of " + t, NONE, x.told(t, 0));
            due("shift of " + t, -101, x.shift(t));
            due("set " + t, NONE, x.set(t, 0));
            due("moves of " + t, NONE, x.moves(t, 0));
            due("why " + t, NONE, x.why(t, 0));
            x.tune(0, 0);
        }
        for (int t = 0; t <= 5; t++) {
            due("tune " + t, 0, x.tell(t, "r" + (t + 1)));
        }
        for (int t = 0; t <= 5; t++) {
            due("its length", t + 1, x.told(t, 2));
            due("shift of " + t, 0, x.shift(t));
            due("set " + t, 0, x.set(t, 0));
            due("moves of " + t, 0, x.moves(t, 0));
            due("why " + t, 0, x.why(t, 0));
        }
    }

    private static void neverToldIsNone() {
        sentence("(one that was never told is none)");
        Tower x = new Tower();
        x.bell(0, 1, 1);
        x.tell(2, "c01");
        x.tell(3, "c0");
        for (int t : new int[] {1, 3}) {
            due("units of " + t, 0, x.told(t, 0));
            due("shift of " + t, -101, x.shift(t));
            due("set " + t, NONE, x.set(t, 0));
            due("moves of " + t, NONE, x.moves(t, 0));
            due("why " + t, NONE, x.why(t, 0));
        }
        due("why of one told", 0, x.why(2, 0));
        due("nearest", 2, x.nearest(0));
    }

    private static void sixtyBytes() {
        sentence("a TEXT of at most 60 bytes");
        String fiftyNine = "c01" + "r1".repeat(28);
        String sixty = "r1".repeat(30);
        for (int n : new int[] {59, 60, 61}) {
            Tower x = new Tower();
            x.feedText(n == 59 ? fiftyNine : sixty + "r1");
            due("bytes fed", n == 59 ? 60 : 80, x.count(8));
            due(n + " bytes", n > 60 ? NONE : 0, x.tune(0, n));
            due("units", n == 59 ? 29 : n == 60 ? 30 : 0, x.told(0, 0));
            due("the tape", n > 60 ? 80 : 0, x.count(8));
        }
        sentence("The first n bytes of the tape (0 to 60");
        Tower x = new Tower();
        x.feedText(sixty + "r1");
        for (int n : new int[] {-1, 62, 80, 81, LEAST, MOST}) {
            due(n + " bytes", NONE, x.tune(0, n));
        }
        due("the tape stays", 80, x.count(8));
        due("0 bytes", 100, x.tune(0, 0));
    }

    private static void notSoManyBytes() {
        sentence("it has not so many (the tape stays)");
        Tower x = new Tower();
        due("1 of 0", NONE, x.tune(0, 1));
        due("0 of 0", 100, x.tune(0, 0));
        x.feedText("r1".repeat(10));
        due("21 of 20", NONE, x.tune(0, 21));
        due("the tape stays", 20, x.count(8));
        due("20 of 20", 0, x.tune(0, 20));
        due("units", 10, x.told(0, 0));
        x.feedText("r1".repeat(20));
        due("41 of 40", NONE, x.tune(0, 41));
        due("the tape stays", 40, x.count(8));
        due("no such tune", NONE, x.tune(6, 40));
        due("no such tune", NONE, x.tune(-1, 40));
        due("the tape stays", 40, x.count(8));
        due("40 of 40", 0, x.tune(1, 40));
        due("units", 20, x.told(1, 0));
    }

    private static void bytesBehindCountForNothing() {
        sentence("The first n bytes of the tape");
        Tower x = new Tower();
        x.feedText("c01d12");
        due("3 of them", 0, x.tune(0, 3));
        due("units", 1, x.told(0, 0));
        x.feedText("c01d12");
        due("2 of them", 102, x.tune(0, 2));
        x.feedText("c01d12");
        due("4 of them", 104, x.tune(0, 4));
        x.feedText("c01d12");
        due("6 of them", 0, x.tune(0, 6));
        due("units", 2, x.told(0, 0));
    }

    private static void tapeIsEmptyThen() {
        sentence("empty then");
        Tower x = new Tower();
        x.feedText("r1".repeat(40));
        due("2 of 80", 0, x.tune(0, 2));
        due("the tape", 0, x.count(8));
        due("nothing is left of it", NONE, x.tune(0, 1));
        x.feedText("x".repeat(80));
        due("a fault", 100, x.tune(0, 60));
        due("the tape", 0, x.count(8));
        x.feedText("r1");
        due("none of 20", 100, x.tune(0, 0));
        due("the tape", 0, x.count(8));
        due("fed anew", 20, x.feedText("r7"));
        due("from its front", 0, x.tune(0, 2));
        due("length", 7, x.told(0, 2));
    }

    private static void tuneStaysAtAFault() {
        sentence("100 times its number and its place (the TUNE stays)");
        Tower x = new Tower();
        x.bell(0, 1, 1);
        x.bell(5, 1, 1);
        x.tell(0, "c02f03");
        x.set(0, 0);
        String[] texts = {"", "f09c01c", "(c0d0e0f0g0)1", "(c0c0)1", "r9r9r9r9r9r9r9r9"};
        int[] due = {100, 107, 209, 303, 415};
        for (int i = 0; i < texts.length; i++) {
            due("text " + texts[i], due[i], x.tell(0, texts[i]));
            due("units", 2, x.told(0, 0));
            due("notes", 2, x.told(0, 1));
            due("lengths", 5, x.told(0, 2));
            due("lowest", 0, x.told(0, 3));
            due("highest", 5, x.told(0, 4));
            due("its strokes", 0, x.set(0, 0));
        }
    }

    private static void toldAnew() {
        sentence("are TUNE t: 0");
        Tower x = new Tower();
        x.bell(0, 1, 1);
        x.tell(0, "c01".repeat(20));
        x.tell(1, "c02");
        x.tell(0, "r1");
        due("units", 1, x.told(0, 0));
        due("notes", 0, x.told(0, 1));
        due("lengths", 1, x.told(0, 2));
        due("highest", NONE, x.told(0, 4));
        due("the other stays", 1, x.told(1, 1));
        x.set(1, 4);
        x.tell(1, "r1");
        due("pins stay", "0:4=0", x.pins());
    }

    private static void noBlanks() {
        sentence("no blanks");
        faults(" ", 100, " c01", 100, "c 01", 101, "c# 01", 102, "c0 1", 102, "c01 ", 103, "c01 d01", 103, "r 1", 101,
                "( c0d0)1", 101, "(c0 d0)1", 103, "(c0d0 )1", 105, "(c0d0) 1", 106, "r1\n", 102, "r1\0", 102);
    }

    private static void oneUnitAtLeast() {
        sentence("UNITS, one behind the other (one at least)");
        faults("", 100, "r1", 0, "c01", 0, "c#01", 0, "(c0d0)1", 0, "r1r1", 0, "c01(d0e0)2r3", 0);
    }

    private static void mostUnits() {
        sentence("UNITS, one behind the other");
        Tower x = new Tower();
        due("30 rests", 0, x.tell(0, "r2".repeat(30)));
        due("units", 30, x.told(0, 0));
        due("lengths", 60, x.told(0, 2));
        due("20 notes", 0, x.tell(0, "b31".repeat(20)));
        due("units", 20, x.told(0, 0));
        due("notes", 20, x.told(0, 1));
        due("as many notes as can be", 0, x.tell(0, "(c0d0e0f0)1".repeat(5) + "c01r1"));
        due("notes", 21, x.told(0, 1));
        due("units", 7, x.told(0, 0));
        due("pairs", 0, x.tell(0, "(c0d0)1".repeat(8) + "r1r1"));
        due("notes", 16, x.told(0, 1));
        due("threes", 0, x.tell(0, "(c0d0e0)1".repeat(6) + "c01d01"));
        due("notes", 20, x.told(0, 1));
    }

    private static void twoToFourNotes() {
        sentence("( and two to four NOTES and )");
        faults("()1", 101, "(c0)1", 103, "(c#0)1", 104, "(c0d0)1", 0, "(c0d0e0)1", 0, "(c0d0e0f0)1", 0,
                "(c0d0e0f0g0)1", 209, "(r)1", 101, "(r1)1", 101, "(c0r)1", 103, "((c0d0)1", 101, "(c0(d0)1", 103,
                "(c01d0)1", 103, "(c0d01)1", 105, "(c0d0", 105, "(c0d0)", 106, "(c0d0))1", 106, "c0d01", 102, "c0)1", 102,
                ")", 100, "r)1", 101, "c01)", 103);
        Tower x = new Tower();
        for (int notes = 2; notes <= 4; notes++) {
            x.tell(0, "(" + "c0d0e0f0".substring(0, 2 * notes) + ")1");
            due("notes", notes, x.told(0, 1));
            due("units", 1, x.told(0, 0));
        }
    }

    private static void lengthsFromOneToNine() {
        sentence("then its LENGTH, a digit 1 to 9");
        for (String unit : new String[] {"r", "c0", "c#3", "(c0d0)", "(c0d0e0f0)"}) {
            int at = unit.length();
            faults(unit + "/", 100 + at, unit + "0", 100 + at, unit + "1", 0, unit + "9", 0, unit + ":", 100 + at,
                    unit, 100 + at, unit + "r", 100 + at, unit + "#", 100 + at, unit + "11", 101 + at, unit + "10", 101 + at);
        }
        Tower x = new Tower();
        for (int length = 1; length <= 9; length++) {
            x.tell(0, "c0" + length);
            due("length", length, x.told(0, 2));
        }
    }

    private static void letters() {
        sentence("a letter c d e f g a b");
        for (char c = 'a'; c <= 'g'; c++) {
            due("letter " + c, 0, faultOf(c + "01"));
            due("in ( ), letter " + c, 0, faultOf("(" + c + "0" + c + "1)1"));
        }
        for (char c : new char[] {'`', 'h', 'A', 'C', 'G', 'H', 'q', 's', 'R', '@', '\u00e3', '\u00ff', '#', '0'}) {
            due("letter " + c, 100, faultOf(c + "01"));
            due("in ( ), letter " + c, 101, faultOf("(" + c + "0d0)1"));
            due("second, letter " + c, 103, faultOf("(d0" + c + "0)1"));
        }
    }

    private static void digits() {
        sentence("a digit 0 to 3");
        faults("c/1", 101, "c01", 0, "c31", 0, "c41", 101, "c91", 101, "c#/1", 102, "c#01", 0, "c#31", 0, "c#41", 102,
                "(c/d0)1", 102, "(c4d0)1", 102, "(c3d0)1", 0, "(c0d3)1", 0, "(c0d4)1", 104, "(c0d/)1", 104,
                "(c#4d0)1", 103, "c1", 102, "cc1", 101, "c(1", 101);
    }

    private static void sharps() {
        sentence("at times #");
        faults("c#01", 0, "c##01", 102, "c0#1", 102, "#c01", 100, "r#1", 101, "(#c0d0)1", 101, "(c#0d#0)1", 0,
                "(c##0d0)1", 103, "(c0#d0)1", 103, "(c0d0#)1", 105, "c", 101, "c#", 102);
    }

    private static void pitchesOfNotes() {
        sentence("its PITCH is 12 times the digit and 0 2 4 5 7 9 11 by the letter, one more with #");
        int[] steps = {0, 2, 4, 5, 7, 9, 11};
        for (int digit = 0; digit <= 3; digit++) {
            Tower x = new Tower();
            for (int i = 0; i < 7; i++) {
                char letter = "cdefgab".charAt(i);
                x.tell(0, letter + "" + digit + "1");
                due(letter + "" + digit, 12 * digit + steps[i], x.told(0, 3));
                x.tell(0, letter + "#" + digit + "1");
                due(letter + "#" + digit, 12 * digit + steps[i] + 1, x.told(0, 4));
            }
        }
    }

    /** No byte stands for another one. */
    private static void otherBytes() {
        sentence("1 what can't stand there (the end, too)");
        for (int b = 0; b < 256; b++) {
            char c = (char) b;
            boolean letter = b >= 'a' && b <= 'g';
            due("first byte " + b, letter || c == 'r' || c == '(' ? 101 : 100, faultOf("" + c));
            due("behind a letter, byte " + b, c == '#' || (b >= '0' && b <= '3') ? 102 : 101, faultOf("c" + c));
            due("behind #, byte " + b, b >= '0' && b <= '3' ? 103 : 102, faultOf("c#" + c));
            due("behind r, byte " + b, b >= '1' && b <= '9' ? 0 : 101, faultOf("r" + c));
            due("behind (, byte " + b, letter ? 102 : 101, faultOf("(" + c));
            due("behind a note in ( ), byte " + b, letter ? 104 : 103, faultOf("(c0" + c));
            due("behind two notes in ( ), byte " + b, letter || c == ')' ? 106 : 105, faultOf("(c0d0" + c));
            due("behind four notes in ( ), byte " + b, letter ? 209 : c == ')' ? 110 : 109, faultOf("(c0d0e0f0" + c));
            due("behind a unit, byte " + b, letter || c == 'r' || c == '(' ? 103 : 102, faultOf("r1" + c));
        }
    }

    private static void theEndToo() {
        sentence("(the end, too)");
        String text = "c03r4(c#0d1e2f#3)5b#31";
        boolean[] whole = new boolean[text.length() + 1];
        whole[3] = true;
        whole[5] = true;
        whole[18] = true;
        whole[22] = true;
        for (int n = 0; n <= text.length(); n++) {
            Tower x = new Tower();
            x.feedText(text);
            due(n + " bytes of " + text, whole[n] ? 0 : 100 + n, x.tune(0, n));
        }
    }

    private static void theEndAtSixty() {
        sentence("FAULTS, the first from the left: 1 what can't stand there (the end, too)");
        faults("r1".repeat(29) + "c0", 160, "r1".repeat(29) + "rr", 159, "r1".repeat(29) + "r0", 159,
                "r1".repeat(29) + "c", 159, "r1".repeat(28) + "(c0d", 160, "r1".repeat(28) + "c#03", 0);
        Tower x = new Tower();
        x.feedText("r1".repeat(29) + "c01");
        due("the byte at 60 isn't looked at", 160, x.tune(0, 60));
    }

    private static void fifthNote() {
        sentence("2 a fifth NOTE in ( ), at its letter");
        faults("(c0d0e0f0g0)1", 209, "(c0d0e0f0g#0)1", 209, "(c0d0e0f0g", 209, "(c0d0e0f0gx", 209, "(c0d0e0f0g9)1", 209,
                "(c#0d#0f#0g#0a#0)1", 213, "(c0d0e0f0g0a0)1", 209, "r1(c0d0e0f0g0)1", 211, "(c0d0)1(c0d0e0f0g0)1", 216,
                "(c0d0e0f0)1(c0d0e0f0)1", 0, "(c0d0e0f0)1c01", 0, "(c0d0e0f0h0)1", 109, "(c0d0e0f0r)1", 109,
                "(c0d0e0f0#0)1", 109, "(c0d0e0f0(", 109, "(c0d0e0f0", 109, "(c0d0e0f0c0)1", 209);
        due("at the last place", 259, faultOf("r1".repeat(25) + "(c0d0e0f0g"));
    }

    private static void pitchInTheSameChord() {
        sentence("3 a PITCH that stands in the same ( ) already, at its letter");
        faults("(c0c0)1", 303, "(c0d0c0)1", 305, "(c0d0d0)1", 305, "(c0d0e0c0)1", 307, "(c0d0e0d0)1", 307,
                "(c0d0e0e0)1", 307, "(c#0c#0)1", 304, "(e#0f0)1", 304, "(f0e#0)1", 303, "(b#0c1)1", 304, "(c1b#0)1", 303,
                "(b#3b#3)1", 304, "(c0c#0)1", 0, "(c0c1c2c3)1", 0, "(c#0d0)1", 0, "(b0c1)1", 0,
                "(c0d0)1(c0d0)1", 0, "(c0d0)1c01", 0, "c01(c0d0)1", 0, "c01c01", 0, "(c0d0)1(e0c0)1", 0,
                "(c0d0)1(e0e0)1", 310);
    }

    private static void pitchAskedAtItsDigit() {
        sentence("(asked when its digit was read)");
        faults("(c0c", 104, "(c0c#", 105, "(c0cx", 104, "(c0c4", 104, "(c0c0", 303, "(c#0c#", 106, "(c#0c#0", 304,
                "(c#0c0", 106, "(c0c#0", 106, "(c0c0x", 303, "(c0c00", 303, "(e0f0e#0", 305, "(e0f0e#", 107);
    }

    private static void lengthsAboveSixtyFour() {
        sentence("4 LENGTHS that are together above 64, at the digit");
        String sixtyThree = "r9".repeat(7);
        faults(sixtyThree, 0, sixtyThree + "r1", 0, sixtyThree + "r2", 415, sixtyThree + "r9", 415,
                sixtyThree + "r1r1", 417, sixtyThree + "c01", 0, sixtyThree + "c02", 416, sixtyThree + "c#02", 417,
                sixtyThree + "(c0d0)1", 0, sixtyThree + "(c0d0)2", 420, sixtyThree + "r1c0", 118,
                sixtyThree + "r1r", 117, sixtyThree + "r1r0", 117, sixtyThree + "r0", 115, sixtyThree + "r1c01", 418,
                "r8".repeat(8), 0, "r8".repeat(8) + "r1", 417, "r2".repeat(30), 0, "r2".repeat(26) + "r3".repeat(4), 0,
                "r2".repeat(25) + "r3".repeat(5), 459);
        Tower x = new Tower();
        x.tell(0, sixtyThree + "c01");
        due("64", 64, x.told(0, 2));
        due("units", 8, x.told(0, 0));
    }

    private static void firstFromTheLeft() {
        sentence("FAULTS, the first from the left");
        faults("xr9r9r9r9r9r9r9r9", 100, "r9r9r9r9r9r9r9r9x", 415, "r9r9r9r9r9r9r9r9(c0c0)1", 415, "(c0c0)1r9r9r9r9r9r9r9r9", 303,
                "(c0c0e0f0g0)1", 303, "(c0d0e0f0c0c0)1", 209, "(c0d0e0e0g0)1", 307, "(c0c0x", 303, "(c0xc0)1", 103,
                "(c0d0e0f0g0)0", 209, "(c0d0e0f0)0", 110, "h0", 100, "c0h", 102);
    }
}
