import java.util.function.Consumer;
import java.util.function.Predicate;
import java.util.function.ToIntFunction;

/**
 * Each way in which a call is refused: its answer, and that all that can be asked of the object is
 * then as it is with a twin that never had that call.
 */
public final class RefusalsTest extends Check {
    private static final int[] ENDS = {Integer.MIN_VALUE, -1, Integer.MAX_VALUE};
    private static final String TAPE = "c01d02(c0e0)3r4r5f02";

    public static void main(String[] args) {
        sentence("A call that is refused (NONE, false) changes nothing but the tape, where it is told.");
        bell();
        crack();
        numbers();
        feed();
        tune();
        set();
        moves();
        why();
        nearest();
        pin();
        mend();
        turn();
        read();
        questions();
        answersChangeNothing();
        faults();
        thereAndBack();
        end();
    }

    /** Bells, pins old and new and broken, tunes with each reason against them, a text read, no tape. */
    private static void busy(Tower x) {
        x.bell(0, 10, 2);
        x.bell(4, 20, 1);
        x.bell(7, 30, 3);
        x.holes(13);
        x.rest(2);
        x.force(29);
        x.life(3);
        x.tell(0, "c02e03");
        x.tell(1, "c01c#01");
        x.tell(2, "c09r5");
        x.tell(3, "(c0e0)1");
        x.tell(4, "c01".repeat(13));
        x.tell(5, "e01e01");
        x.set(0, 12);
        x.pin(3, 5, true);
        x.pin(1, 6, true);
        x.turn(12, 4);
        x.turn(12, 1);
        x.turn(12, 1);
        x.turn(5, 1);
        x.crack(2, true);
        x.read(0, 13);
    }

    private static void withTape(Tower x) {
        busy(x);
        x.feedText(TAPE);
    }

    private static void withFullTape(Tower x) {
        busy(x);
        x.feedText(TAPE.repeat(2) + "r1r1r1r1r1r1r1r1r1r1" + TAPE);
    }

    private static void withAllBells(Tower x) {
        withTape(x);
        for (int pitch = 30; pitch < 39; pitch++) {
            x.bell(pitch, 5, 1);
        }
    }

    /** Bells and pins, but no tunes and nothing read. */
    private static void young(Tower x) {
        x.bell(0, 10, 2);
        x.pin(1, 6, true);
        x.turn(6, 1);
        x.feedText(TAPE);
    }

    /** All that can be asked, the tape and the tunes by their use. */
    private static String all(Tower x) {
        StringBuilder all = new StringBuilder(x.pins());
        for (int what = 0; what <= 9; what++) {
            all.append(" count ").append(x.count(what));
        }
        for (int b = 0; x.look(b, 0) != NONE; b++) {
            for (int what = 0; what <= 6; what++) {
                all.append(" look ").append(x.look(b, what));
            }
        }
        for (int i = 0; x.octet(i) != NONE; i++) {
            all.append(" octet ").append(x.octet(i));
        }
        all.append(" nearest ").append(x.nearest(12));
        for (int t = 0; t <= 5; t++) {
            askTune(x, t, all);
        }
        all.append(" tape ").append(x.tune(5, Math.min(60, x.count(8))));
        askTune(x, 5, all);
        return all.toString();
    }

    private static void askTune(Tower x, int t, StringBuilder all) {
        for (int what = 0; what <= 4; what++) {
            all.append(" told ").append(x.told(t, what));
        }
        all.append(" shift ").append(x.shift(t)).append(" why ").append(x.why(t, 12));
        all.append(" set ").append(x.set(t, 12)).append(' ').append(x.readBack(12, 8));
    }

    private static Tower made(Consumer<Tower> scene) {
        Tower x = new Tower();
        scene.accept(x);
        return x;
    }

    private static void changesNothing(String what, Consumer<Tower> scene, Consumer<Tower> calls) {
        Tower asked = made(scene);
        calls.accept(asked);
        due(what + ": all else", all(made(scene)), all(asked));
    }

    private static void none(String what, Consumer<Tower> scene, ToIntFunction<Tower> call) {
        due(what, NONE, call.applyAsInt(made(scene)));
        changesNothing(what, scene, call::applyAsInt);
    }

    private static void no(String what, Consumer<Tower> scene, Predicate<Tower> call) {
        due(what, false, call.test(made(scene)));
        changesNothing(what, scene, call::test);
    }

    private static void bell() {
        none("pitch 48", RefusalsTest::withTape, x -> x.bell(48, 1, 1));
        none("weight 0", RefusalsTest::withTape, x -> x.bell(1, 0, 1));
        none("weight 100", RefusalsTest::withTape, x -> x.bell(1, 100, 1));
        none("hammers 0", RefusalsTest::withTape, x -> x.bell(1, 1, 0));
        none("hammers 4", RefusalsTest::withTape, x -> x.bell(1, 1, 4));
        none("a pitch that is there", RefusalsTest::withTape, x -> x.bell(0, 9, 3));
        none("a cracked bell's pitch", RefusalsTest::withTape, x -> x.bell(7, 9, 3));
        none("a thirteenth", RefusalsTest::withAllBells, x -> x.bell(1, 9, 3));
        for (int end : ENDS) {
            none("pitch " + end, RefusalsTest::withTape, x -> x.bell(end, 1, 1));
            none("weight " + end, RefusalsTest::withTape, x -> x.bell(1, end, 1));
            none("hammers " + end, RefusalsTest::withTape, x -> x.bell(1, 1, end));
        }
    }

    private static void crack() {
        no("bell 3", RefusalsTest::withTape, x -> x.crack(3, true));
        no("recast bell 3", RefusalsTest::withTape, x -> x.crack(3, false));
        no("recast a whole one", RefusalsTest::withTape, x -> x.crack(0, false));
        no("crack a cracked one", RefusalsTest::withTape, x -> x.crack(2, true));
        for (int end : ENDS) {
            no("crack bell " + end, RefusalsTest::withTape, x -> x.crack(end, true));
        }
    }

    private static void numbers() {
        no("holes 7", RefusalsTest::withTape, x -> x.holes(7));
        no("holes 65", RefusalsTest::withTape, x -> x.holes(65));
        no("rest 0", RefusalsTest::withTape, x -> x.rest(0));
        no("rest 9", RefusalsTest::withTape, x -> x.rest(9));
        no("force 0", RefusalsTest::withTape, x -> x.force(0));
        no("force 1000", RefusalsTest::withTape, x -> x.force(1000));
        no("life 0", RefusalsTest::withTape, x -> x.life(0));
        no("life 10001", RefusalsTest::withTape, x -> x.life(10001));
        for (int end : ENDS) {
            no("holes " + end, RefusalsTest::withTape, x -> x.holes(end));
            no("rest " + end, RefusalsTest::withTape, x -> x.rest(end));
            no("force " + end, RefusalsTest::withTape, x -> x.force(end));
            no("life " + end, RefusalsTest::withTape, x -> x.life(end));
        }
    }

    private static void feed() {
        none("feed behind 80", RefusalsTest::withFullTape, x -> x.feed(1, 2, 3, 4, 5));
        none("feed behind 80", RefusalsTest::withFullTape, x -> x.feed(-1, -1, -1, -1, -1));
    }

    private static void tune() {
        none("tune 6", RefusalsTest::withTape, x -> x.tune(6, 3));
        none("61 bytes of 80", RefusalsTest::withFullTape, x -> x.tune(0, 61));
        none("80 bytes of 80", RefusalsTest::withFullTape, x -> x.tune(0, 80));
        none("21 bytes of 20", RefusalsTest::withTape, x -> x.tune(0, 21));
        none("60 bytes of 20", RefusalsTest::withTape, x -> x.tune(0, 60));
        none("1 byte of none", RefusalsTest::busy, x -> x.tune(0, 1));
        for (int end : ENDS) {
            none("tune " + end, RefusalsTest::withTape, x -> x.tune(end, 3));
            none("bytes " + end, RefusalsTest::withTape, x -> x.tune(0, end));
            none("tune " + end + " without bytes", RefusalsTest::withTape, x -> x.tune(end, 0));
        }
    }

    private static void set() {
        none("set tune 6", RefusalsTest::withTape, x -> x.set(6, 0));
        none("set at 13", RefusalsTest::withTape, x -> x.set(0, 13));
        none("set one never told", RefusalsTest::young, x -> x.set(0, 0));
        for (int t = 1; t <= 5; t++) {
            int reason = t;
            due("the reason", reason, made(RefusalsTest::withTape).why(reason, 4));
            none("set, reason " + t, RefusalsTest::withTape, x -> x.set(reason, 4));
        }
        for (int end : ENDS) {
            none("set tune " + end, RefusalsTest::withTape, x -> x.set(end, 0));
            none("set at " + end, RefusalsTest::withTape, x -> x.set(0, end));
        }
    }

    private static void moves() {
        none("moves of tune 6", RefusalsTest::withTape, x -> x.moves(6, 0));
        none("moves at 13", RefusalsTest::withTape, x -> x.moves(0, 13));
        none("moves of one never told", RefusalsTest::young, x -> x.moves(0, 0));
        for (int t = 1; t <= 5; t++) {
            int reason = t;
            none("moves, reason " + t, RefusalsTest::withTape, x -> x.moves(reason, 4));
        }
        for (int end : ENDS) {
            none("moves of tune " + end, RefusalsTest::withTape, x -> x.moves(end, 0));
            none("moves at " + end, RefusalsTest::withTape, x -> x.moves(0, end));
        }
    }

    private static void why() {
        none("why tune 6", RefusalsTest::withTape, x -> x.why(6, 0));
        none("why at 13", RefusalsTest::withTape, x -> x.why(0, 13));
        none("why one never told", RefusalsTest::young, x -> x.why(0, 0));
        for (int end : ENDS) {
            none("why tune " + end, RefusalsTest::withTape, x -> x.why(end, 0));
            none("why at " + end, RefusalsTest::withTape, x -> x.why(0, end));
        }
    }

    private static void nearest() {
        none("nearest at 13", RefusalsTest::withTape, x -> x.nearest(13));
        none("nearest of none", RefusalsTest::young, x -> x.nearest(0));
        for (int end : ENDS) {
            none("nearest at " + end, RefusalsTest::withTape, x -> x.nearest(end));
        }
    }

    private static void pin() {
        for (boolean in : new boolean[] {true, false}) {
            no("pin of track 6", RefusalsTest::withTape, x -> x.pin(6, 0, in));
            no("pin at 13", RefusalsTest::withTape, x -> x.pin(0, 13, in));
            for (int end : ENDS) {
                no("pin of track " + end, RefusalsTest::withTape, x -> x.pin(end, 0, in));
                no("pin at " + end, RefusalsTest::withTape, x -> x.pin(0, end, in));
            }
        }
        no("a pin that is in", RefusalsTest::withTape, x -> x.pin(2, 1, true));
        no("a broken pin that is in", RefusalsTest::withTape, x -> x.pin(0, 12, true));
        no("a pin that is out", RefusalsTest::withTape, x -> x.pin(2, 4, false));
        no("nearer than R behind", RefusalsTest::withTape, x -> x.pin(2, 2, true));
        no("nearer than R before", RefusalsTest::withTape, x -> x.pin(2, 0, true));
        no("nearer than R round the ring", RefusalsTest::withTape, x -> x.pin(0, 0, true));
    }

    private static void mend() {
        none("mend of track 6", RefusalsTest::withTape, x -> x.mend(6, 0));
        none("mend at 13", RefusalsTest::withTape, x -> x.mend(0, 13));
        none("mend where none is", RefusalsTest::withTape, x -> x.mend(0, 11));
        none("mend where none is", RefusalsTest::withTape, x -> x.mend(1, 12));
        for (int end : ENDS) {
            none("mend of track " + end, RefusalsTest::withTape, x -> x.mend(end, 0));
            none("mend at " + end, RefusalsTest::withTape, x -> x.mend(0, end));
        }
    }

    private static void turn() {
        none("turn from 13", RefusalsTest::withTape, x -> x.turn(13, 1));
        none("turn over 0", RefusalsTest::withTape, x -> x.turn(1, 0));
        none("turn over 641", RefusalsTest::withTape, x -> x.turn(1, 641));
        for (int end : ENDS) {
            none("turn from " + end, RefusalsTest::withTape, x -> x.turn(end, 13));
            none("turn over " + end, RefusalsTest::withTape, x -> x.turn(1, end));
        }
    }

    private static void read() {
        none("read from 13", RefusalsTest::withTape, x -> x.read(13, 1));
        none("read over 0", RefusalsTest::withTape, x -> x.read(1, 0));
        none("read over 14", RefusalsTest::withTape, x -> x.read(1, 14));
        for (int end : ENDS) {
            none("read from " + end, RefusalsTest::withTape, x -> x.read(end, 13));
            none("read over " + end, RefusalsTest::withTape, x -> x.read(1, end));
        }
        none("read over 0, nothing read before", RefusalsTest::young, x -> x.read(0, 0));
    }

    private static void questions() {
        none("octet, nothing read", RefusalsTest::young, x -> x.octet(0));
        none("octet 100", RefusalsTest::withTape, x -> x.octet(100));
        none("strikes where none is", RefusalsTest::withTape, x -> x.strikes(0, 11));
        none("strikes of track 6", RefusalsTest::withTape, x -> x.strikes(6, 0));
        none("strikes at 13", RefusalsTest::withTape, x -> x.strikes(0, 13));
        none("look at bell 3", RefusalsTest::withTape, x -> x.look(3, 0));
        none("look what 7", RefusalsTest::withTape, x -> x.look(0, 7));
        none("told of tune 6", RefusalsTest::withTape, x -> x.told(6, 0));
        none("told what 5", RefusalsTest::withTape, x -> x.told(0, 5));
        none("count 10", RefusalsTest::withTape, x -> x.count(10));
        for (int end : ENDS) {
            none("octet " + end, RefusalsTest::withTape, x -> x.octet(end));
            none("strikes of track " + end, RefusalsTest::withTape, x -> x.strikes(end, 0));
            none("strikes at " + end, RefusalsTest::withTape, x -> x.strikes(0, end));
            none("look at bell " + end, RefusalsTest::withTape, x -> x.look(end, 0));
            none("look what " + end, RefusalsTest::withTape, x -> x.look(0, end));
            none("told of tune " + end, RefusalsTest::withTape, x -> x.told(end, 0));
            none("told what " + end, RefusalsTest::withTape, x -> x.told(0, end));
            none("count " + end, RefusalsTest::withTape, x -> x.count(end));
        }
    }

    private static void answersChangeNothing() {
        changesNothing("questions with an answer", RefusalsTest::withTape, x -> {
            for (int t = 0; t <= 5; t++) {
                x.shift(t);
                x.moves(t, 7);
                x.why(t, 7);
                x.told(t, 1);
            }
            x.nearest(7);
            x.octet(0);
            x.strikes(0, 12);
            x.look(0, 5);
            x.count(6);
        });
        changesNothing("another read", RefusalsTest::withTape, x -> {
            x.read(5, 3);
            x.read(0, 13);
        });
        changesNothing("set of what stands", RefusalsTest::onlyTuneStands, x -> x.set(0, 12));
    }

    private static void onlyTuneStands(Tower x) {
        withTape(x);
        x.set(0, 12);
    }

    private static void faults() {
        sentence("a FAULT: 100 times its number and its place (the TUNE stays)");
        String[] texts = {"x", "c09r1(", "(c0d0e0f0g0)1", "c01(c0c0)1", "r9".repeat(8)};
        for (int t = 0; t <= 5; t += 5) {
            for (String text : texts) {
                int told = t;
                due("text " + text, true, made(RefusalsTest::busy).tell(told, text) >= 100);
                changesNothing("text " + text, RefusalsTest::busy, x -> x.tell(told, text));
            }
        }
        changesNothing("no text", RefusalsTest::busy, x -> x.tune(0, 0));
    }

    private static void thereAndBack() {
        sentence("(PINS that stand stay; likewise force(), life().)");
        changesNothing("rest", RefusalsTest::withTape, x -> {
            x.rest(8);
            x.rest(2);
        });
        changesNothing("force", RefusalsTest::withTape, x -> {
            x.force(1);
            x.force(29);
        });
        changesNothing("life", RefusalsTest::withTape, x -> {
            x.life(1);
            x.life(10000);
            x.life(3);
        });
        changesNothing("the numbers that are", RefusalsTest::withTape, x -> {
            x.rest(2);
            x.force(29);
            x.life(3);
        });
        sentence("BELL b is CRACKED (is), or recast");
        changesNothing("crack", RefusalsTest::withTape, x -> {
            x.crack(0, true);
            x.crack(2, false);
            x.crack(2, true);
            x.crack(0, false);
        });
        sentence("A PIN by hand: put in (is; without STRIKES), or taken out: true");
        changesNothing("pin", RefusalsTest::withTape, x -> {
            x.pin(1, 9, true);
            x.pin(1, 9, false);
        });
    }
}
