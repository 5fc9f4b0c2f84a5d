/** A ChimeDrum for tests by hand. Its calls are counted: behind the 512th nothing is promised. */
final class Tower {
    private static final int MOST_CALLS = 512;
    private final ChimeDrum drum = new ChimeDrum();
    private int calls = 0;

    private ChimeDrum next() {
        calls++;
        if (calls > MOST_CALLS) {
            throw new IllegalStateException("a test asks more than " + MOST_CALLS + " calls of one object");
        }
        return drum;
    }

    int bell(int pitch, int weight, int hammers) {
        return next().bell(pitch, weight, hammers);
    }

    boolean crack(int b, boolean is) {
        return next().crack(b, is);
    }

    boolean holes(int n) {
        return next().holes(n);
    }

    boolean rest(int r) {
        return next().rest(r);
    }

    boolean force(int f) {
        return next().force(f);
    }

    boolean life(int l) {
        return next().life(l);
    }

    int feed(int a, int b, int c, int d, int e) {
        return next().feed(a, b, c, d, e);
    }

    int tune(int t, int n) {
        return next().tune(t, n);
    }

    int shift(int t) {
        return next().shift(t);
    }

    int set(int t, int hole) {
        return next().set(t, hole);
    }

    int moves(int t, int hole) {
        return next().moves(t, hole);
    }

    int why(int t, int hole) {
        return next().why(t, hole);
    }

    int nearest(int hole) {
        return next().nearest(hole);
    }

    boolean pin(int track, int hole, boolean is) {
        return next().pin(track, hole, is);
    }

    int mend(int track, int hole) {
        return next().mend(track, hole);
    }

    int turn(int hole, int n) {
        return next().turn(hole, n);
    }

    int read(int hole, int n) {
        return next().read(hole, n);
    }

    int octet(int i) {
        return next().octet(i);
    }

    int strikes(int track, int hole) {
        return next().strikes(track, hole);
    }

    int look(int b, int what) {
        return next().look(b, what);
    }

    int told(int t, int what) {
        return next().told(t, what);
    }

    int count(int what) {
        return next().count(what);
    }

    /** Feeds a text, filled up to twenties with bytes 0: how many bytes the tape has then. */
    int feedText(String text) {
        int has = 0;
        for (int at = 0; at == 0 || at < text.length(); at += 20) {
            int[] words = new int[5];
            for (int i = 0; i < 20; i++) {
                int c = at + i < text.length() ? text.charAt(at + i) : 0;
                words[i / 4] = words[i / 4] << 8 | c;
            }
            has = feed(words[0], words[1], words[2], words[3], words[4]);
        }
        return has;
    }

    /** The tape has to be empty before. */
    int tell(int t, String text) {
        feedText(text);
        return tune(t, text.length());
    }

    String readBack(int hole, int n) {
        return lastRead(read(hole, n));
    }

    String lastRead(int size) {
        StringBuilder text = new StringBuilder();
        for (int i = 0; i < size; i++) {
            text.append((char) octet(i));
        }
        return text.toString();
    }

    /** Where pins stand, as track:hole=strikes. */
    String pins() {
        StringBuilder all = new StringBuilder();
        int holes = count(2);
        int bells = count(0);
        for (int b = 0; b < bells; b++) {
            int left = look(b, 5);
            int first = left > 0 ? look(b, 4) : 0;
            for (int cell = first * holes; left > 0 && cell < (first + 3) * holes; cell++) {
                int made = strikes(cell / holes, cell % holes);
                if (made >= 0) {
                    all.append(cell / holes).append(':').append(cell % holes).append('=').append(made).append(' ');
                    left--;
                }
            }
        }
        return all.toString().trim();
    }
}
