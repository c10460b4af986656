import java.util.ArrayList;
import java.util.List;
import java.util.function.ToLongFunction;

/** "What is refused changes nothing": each refusal of each call, in an empty, a common and a full object. */
public final class RefusalBoundariesTest {
    private static final int COPY = 0, SUM = 1, DIFFERENCE = 2, PRODUCT = 3, LESSER = 4;
    private static final int UNKNOWN = -1, OUTSIDE = -2, STATE = -3, FULL = -4, NO = -5, NONE = -6;
    private static final Answers ANSWERS = new Answers();
    /** So many looks make up all that can be seen of an object; each stays far below 512 calls. */
    private static final int LOOKS = 6;

    private record Refused(String call, long want, ToLongFunction<StepRegisters> ask) {
    }

    private interface Maker {
        StepRegisters make();
    }

    public static void main(String[] args) {
        List<Refused> everywhere = everywhere();
        List<Refused> empty = new ArrayList<>(everywhere);
        empty.addAll(unused(0));
        empty.addAll(missing(0));
        empty.add(new Refused("restore(0)", STATE, x -> x.restore(0)));
        empty.add(new Refused("restore(1)", STATE, x -> x.restore(1)));
        unchanged("empty", StepRegisters::new, empty);
        List<Refused> common = new ArrayList<>(everywhere);
        common.addAll(unused(6));
        common.addAll(missing(4));
        common.add(new Refused("restore(1)", STATE, x -> x.restore(1)));
        common.add(new Refused("cross(1)", NO, x -> x.cross(1)));
        common.add(new Refused("told(0, 4)", OUTSIDE, x -> x.told(0, 4)));
        common.add(new Refused("told(3, -1)", OUTSIDE, x -> x.told(3, -1)));
        unchanged("common", RefusalBoundariesTest::common, common);
        List<Refused> full = new ArrayList<>(everywhere);
        full.addAll(missing(10));
        for (int kind = COPY; kind <= LESSER; kind++) {
            int k = kind;
            full.add(new Refused("put(" + k + ", 1, 2, 3)", FULL, x -> x.put(k, 1, 2, 3)));
        }
        full.add(new Refused("cross(9)", NO, x -> x.cross(9)));
        full.add(new Refused("told(9, 4)", OUTSIDE, x -> x.told(9, 4)));
        full.add(new Refused("place(4, 0, 0, 0)", OUTSIDE, x -> x.place(4, 0, 0, 0)));
        full.add(new Refused("place(1, 2, 6, 0)", OUTSIDE, x -> x.place(1, 2, 6, 0)));
        full.add(new Refused("place(1, 0, 6, 2)", OUTSIDE, x -> x.place(1, 0, 6, 2)));
        unchanged("full", RefusalBoundariesTest::full, full);
        ANSWERS.end();
    }

    /** 4 STATEMENTS, the second one a COPY; VARIABLE 6 is not USED; IMAGE 0 is kept. */
    private static StepRegisters common() {
        StepRegisters x = new StepRegisters();
        x.set(4, -9);
        x.put(SUM, 2, 0, 1);
        x.image(0);
        x.put(COPY, 3, 2, 6);
        x.put(DIFFERENCE, 4, 5, 3);
        x.put(PRODUCT, 0, 4, 1);
        x.free(3, 1);
        x.set(0, 7);
        x.set(6, Integer.MIN_VALUE);
        x.exchange(0, 5);
        return x;
    }

    /** 10 STATEMENTS, the last one a COPY; both IMAGES are kept. */
    private static StepRegisters full() {
        StepRegisters x = new StepRegisters();
        for (int s = 0; s < 10; s++) {
            x.put((s + 1) % 5, (3 * s + 1) % 7, s * s % 7, (s + 6) % 7);
            x.set(s % 7, s - 4);
        }
        x.image(0);
        x.free(1, 0);
        x.free(2, 1);
        x.free(6, 1);
        x.exchange(3, 6);
        x.run(2, 1);
        x.image(1);
        x.set(2, 77);
        return x;
    }

    /** Calls that are refused whatever the object. */
    private static List<Refused> everywhere() {
        List<Refused> all = new ArrayList<>();
        for (int kind : new int[] {-1, 5}) {
            all.add(new Refused("put(" + kind + ", 0, 0, 0)", OUTSIDE, x -> x.put(kind, 0, 0, 0)));
            all.add(new Refused("put(" + kind + ", 7, 7, 7)", OUTSIDE, x -> x.put(kind, 7, 7, 7)));
        }
        for (int v : new int[] {-1, 7}) {
            all.add(new Refused("put(1, " + v + ", 0, 0)", UNKNOWN, x -> x.put(SUM, v, 0, 0)));
            all.add(new Refused("put(2, 0, " + v + ", 0)", UNKNOWN, x -> x.put(DIFFERENCE, 0, v, 0)));
            all.add(new Refused("put(4, 0, 0, " + v + ")", UNKNOWN, x -> x.put(LESSER, 0, 0, v)));
            all.add(new Refused("put(0, " + v + ", 0, 0)", UNKNOWN, x -> x.put(COPY, v, 0, 0)));
            all.add(new Refused("put(0, 0, " + v + ", 0)", UNKNOWN, x -> x.put(COPY, 0, v, 0)));
            all.add(new Refused("set(" + v + ", 3)", UNKNOWN, x -> x.set(v, 3)));
            all.add(new Refused("value(" + v + ")", StepRegisters.GONE + UNKNOWN, x -> x.value(v)));
            all.add(new Refused("weight(" + v + ", 0)", UNKNOWN, x -> x.weight(v, 0)));
            all.add(new Refused("weight(0, " + v + ")", UNKNOWN, x -> x.weight(0, v)));
            all.add(new Refused("taken(" + v + ", 0)", UNKNOWN, x -> x.taken(v, 0)));
            all.add(new Refused("taken(0, " + v + ")", UNKNOWN, x -> x.taken(0, v)));
            all.add(new Refused("exchange(" + v + ", 0)", UNKNOWN, x -> x.exchange(v, 0)));
            all.add(new Refused("exchange(0, " + v + ")", UNKNOWN, x -> x.exchange(0, v)));
            all.add(new Refused("place(1, 0, " + v + ", 0)", UNKNOWN, x -> x.place(1, 0, v, 0)));
            all.add(new Refused("place(4, 2, " + v + ", 2)", UNKNOWN, x -> x.place(4, 2, v, 2)));
        }
        for (int distance : new int[] {0, 7}) {
            all.add(new Refused("free(" + distance + ", 1)", OUTSIDE, x -> x.free(distance, 1)));
            all.add(new Refused("free(" + distance + ", 0)", OUTSIDE, x -> x.free(distance, 0)));
        }
        for (int on : new int[] {-1, 2}) {
            all.add(new Refused("free(1, " + on + ")", OUTSIDE, x -> x.free(1, on)));
            all.add(new Refused("free(4, " + on + ")", OUTSIDE, x -> x.free(4, on)));
            all.add(new Refused("free(7, " + on + ")", OUTSIDE, x -> x.free(7, on)));
        }
        all.addAll(plansOutside());
        for (int wrong : new int[] {-1, 2}) {
            all.add(new Refused("hand(" + wrong + ")", OUTSIDE, x -> x.hand(wrong)));
            all.add(new Refused("image(" + wrong + ")", OUTSIDE, x -> x.image(wrong)));
            all.add(new Refused("restore(" + wrong + ")", OUTSIDE, x -> x.restore(wrong)));
        }
        for (int what : new int[] {-1, 7, 8, 9, 17}) {
            all.add(new Refused("count(" + what + ")", OUTSIDE, x -> x.count(what)));
        }
        all.add(new Refused("sight(-1)", NONE, x -> x.sight(-1)));
        all.add(new Refused("sight(30)", NONE, x -> x.sight(30)));
        return all;
    }

    private static List<Refused> plansOutside() {
        List<Refused> all = new ArrayList<>();
        for (int r : new int[] {0, 4}) {
            all.add(new Refused("plan(" + r + ", 0, 0)", OUTSIDE, x -> x.plan(r, 0, 0)));
            all.add(new Refused("step(" + r + ", 0, 0, 0)", OUTSIDE, x -> x.step(r, 0, 0, 0)));
            all.add(new Refused("run(" + r + ", 0)", OUTSIDE, x -> x.run(r, 0)));
            all.add(new Refused("run(" + r + ", 2)", OUTSIDE, x -> x.run(r, 2)));
        }
        for (int mode : new int[] {-1, 2}) {
            all.add(new Refused("plan(1, " + mode + ", 0)", OUTSIDE, x -> x.plan(1, mode, 0)));
            all.add(new Refused("step(1, " + mode + ", 0, 0)", OUTSIDE, x -> x.step(1, mode, 0, 0)));
            all.add(new Refused("run(1, " + mode + ")", OUTSIDE, x -> x.run(1, mode)));
            all.add(new Refused("run(3, " + mode + ")", OUTSIDE, x -> x.run(3, mode)));
        }
        for (int what : new int[] {-1, 3}) {
            all.add(new Refused("plan(1, 1, " + what + ")", OUTSIDE, x -> x.plan(1, 1, what)));
            all.add(new Refused("step(1, 1, 0, " + what + ")", OUTSIDE, x -> x.step(1, 1, 0, what)));
            all.add(new Refused("step(1, 1, -1, " + what + ")", OUTSIDE, x -> x.step(1, 1, -1, what)));
        }
        all.add(new Refused("step(2, 1, -1, 0)", NONE, x -> x.step(2, 1, -1, 0)));
        all.add(new Refused("step(2, 1, 30, 1)", NONE, x -> x.step(2, 1, 30, 1)));
        return all;
    }

    /** Calls with a VARIABLE that is not USED. */
    private static List<Refused> unused(int v) {
        List<Refused> all = new ArrayList<>();
        for (int what = -1; what <= 2; what++) {
            int w = what;
            all.add(new Refused("place(1, 0, " + v + ", " + w + ")", UNKNOWN, x -> x.place(1, 0, v, w)));
            all.add(new Refused("place(0, 1, " + v + ", " + w + ")", UNKNOWN, x -> x.place(0, 1, v, w)));
            all.add(new Refused("place(3, 2, " + v + ", " + w + ")", UNKNOWN, x -> x.place(3, 2, v, w)));
        }
        return all;
    }

    /** Calls with a STATEMENT that is not there, there being so many. */
    private static List<Refused> missing(int many) {
        List<Refused> all = new ArrayList<>();
        for (int s : new int[] {-1, many, many + 1}) {
            all.add(new Refused("drop(" + s + ")", UNKNOWN, x -> x.drop(s)));
            all.add(new Refused("cross(" + s + ")", UNKNOWN, x -> x.cross(s)));
            all.add(new Refused("told(" + s + ", 0)", UNKNOWN, x -> x.told(s, 0)));
            all.add(new Refused("told(" + s + ", 4)", UNKNOWN, x -> x.told(s, 4)));
        }
        return all;
    }

    /** Each object is used for one look alone, so that it is not called too often. */
    private static void unchanged(String name, Maker maker, List<Refused> calls) {
        for (int look = 0; look < LOOKS; look++) {
            List<Long> untouched = look(maker.make(), look);
            for (Refused refused : calls) {
                ANSWERS.sentence("What is refused changes nothing: " + name + " object, look " + look);
                StepRegisters x = maker.make();
                ANSWERS.due(refused.call, refused.ask.applyAsLong(x), refused.want);
                same(refused.call, look(x, look), untouched);
            }
            // All of them behind one another, too, and the plans found ahead of them.
            StepRegisters x = maker.make();
            x.plan(3, 1, 0);
            for (Refused refused : calls) {
                refused.ask.applyAsLong(x);
            }
            same("all refused calls", look(x, look), untouched);
        }
    }

    private static void same(String call, List<Long> got, List<Long> want) {
        ANSWERS.due(call + ": how many answers", got.size(), want.size());
        for (int i = 0; i < want.size(); i++) {
            ANSWERS.due(call + ": answer " + i + " behind it", got.get(i), want.get(i));
        }
    }

    private static List<Long> look(StepRegisters x, int look) {
        List<Long> seen = new ArrayList<>();
        if (look < 3) {
            lookAtPlans(x, look + 1, seen);
        } else if (look == 3) {
            lookAtRest(x, seen);
        } else {
            seen.add((long) x.restore(look - 4));
            lookAtRest(x, seen);
        }
        return seen;
    }

    private static void lookAtPlans(StepRegisters x, int r, List<Long> seen) {
        for (int mode = 0; mode <= 1; mode++) {
            for (int what = 0; what <= 2; what++) {
                seen.add((long) x.plan(r, mode, what));
                for (int i = 0; i < 30; i++) {
                    seen.add((long) x.step(r, mode, i, what));
                }
            }
            for (int v = 0; v <= 6; v++) {
                seen.add((long) x.place(r, mode, v, 0));
                seen.add((long) x.place(r, mode, v, 1));
            }
        }
    }

    private static void lookAtRest(StepRegisters x, List<Long> seen) {
        for (int s = 0; s < 10; s++) {
            for (int what = 0; what <= 3; what++) {
                seen.add((long) x.told(s, what));
            }
        }
        for (int i = 0; i < 30; i++) {
            seen.add((long) x.sight(i));
        }
        for (int what = 0; what <= 16; what++) {
            seen.add((long) x.count(what));
        }
        for (int v = 0; v <= 6; v++) {
            seen.add(x.value(v));
            for (int u = 0; u < v; u++) {
                seen.add((long) x.weight(u, v));
                seen.add((long) x.taken(u, v));
            }
        }
        seen.add((long) x.hand(0));
        seen.add((long) x.hand(1));
        // FREE distances are told by changing one of them only, so this comes last.
        seen.add((long) x.free(5, 1));
        seen.add((long) x.set(0, 0));
        seen.add((long) x.run(3, 1));
        seen.add(x.value(4));
        seen.add((long) x.put(SUM, 0, 0, 0));
    }
}
