/** Each promise by calls whose answers were worked out from the document by hand. */
public final class PromisesTest {
    private static final int COPY = 0, SUM = 1, DIFFERENCE = 2, PRODUCT = 3, LESSER = 4;
    private static final int UNKNOWN = -1, OUTSIDE = -2, STATE = -3, FULL = -4, NO = -5, NONE = -6;
    private static final int[] WILD = {Integer.MIN_VALUE, -1000, -1, 1000, Integer.MAX_VALUE};

    private static int wrong = 0;

    private static void due(String call, long got, long want) {
        if (got != want) {
            wrong++;
            System.out.println(call + " answered " + got + ", due is " + want);
        }
    }

    public static void main(String[] args) {
        constants();
        newObject();
        put();
        drop();
        cross();
        told();
        free();
        setAndValue();
        sight();
        plan();
        planTies();
        place();
        step();
        run();
        weight();
        taken();
        exchange();
        hand();
        count();
        imageAndRestore();
        refusalsChangeNothing();
        System.out.println(wrong == 0 ? "all answers are as due" : wrong + " answers are not as due");
        if (wrong != 0) {
            System.exit(1);
        }
    }

    private static void constants() {
        due("UNKNOWN", StepRegisters.UNKNOWN, UNKNOWN);
        due("OUTSIDE", StepRegisters.OUTSIDE, OUTSIDE);
        due("STATE", StepRegisters.STATE, STATE);
        due("FULL", StepRegisters.FULL, FULL);
        due("NO", StepRegisters.NO, NO);
        due("NONE", StepRegisters.NONE, NONE);
        due("GONE", StepRegisters.GONE, -10000000000L);
    }

    private static void newObject() {
        StepRegisters x = new StepRegisters();
        for (int what = 0; what <= 6; what++) {
            due("1: count(" + what + ")", x.count(what), 0);
        }
        for (int v = 0; v < 7; v++) {
            due("1: value", x.value(v), 0);
            due("1: count(1" + v + ")", x.count(10 + v), v);
            due("1: place", x.place(1, 0, v, 0), UNKNOWN);
        }
        due("1: sight", x.sight(0), NONE);
        for (int r = 1; r <= 3; r++) {
            for (int mode = 0; mode <= 1; mode++) {
                for (int what = 0; what <= 2; what++) {
                    due("1: plan", x.plan(r, mode, what), 0);
                    due("1: step", x.step(r, mode, 0, what), NONE);
                }
                due("1: run", x.run(r, mode), 0);
            }
        }
        due("1: hand(0)", x.hand(0), 0);
        due("1: hand(1)", x.hand(1), 0);
        due("1: restore(0)", x.restore(0), STATE);
        due("1: restore(1)", x.restore(1), STATE);
        due("1: free", x.free(1, 1), 2);
        due("1: told", x.told(0, 0), UNKNOWN);
    }

    private static void put() {
        StepRegisters x = new StepRegisters();
        due("2: kind below", x.put(-1, 0, 0, 0), OUTSIDE);
        due("2: kind above", x.put(5, 0, 0, 0), OUTSIDE);
        due("2: kind ahead of variables", x.put(5, 7, -1, 9), OUTSIDE);
        for (int kind = COPY; kind <= LESSER; kind++) {
            due("2: target", x.put(kind, 7, 0, 0), UNKNOWN);
            due("2: target", x.put(kind, -1, 0, 0), UNKNOWN);
            due("2: left", x.put(kind, 0, 7, 0), UNKNOWN);
            due("2: left", x.put(kind, 0, -1, 0), UNKNOWN);
            if (kind != COPY) {
                due("2: right", x.put(kind, 0, 0, 7), UNKNOWN);
                due("2: right", x.put(kind, 0, 0, -1), UNKNOWN);
            }
        }
        for (int wild : WILD) {
            due("2: wild kind", x.put(wild, 0, 0, 0), OUTSIDE);
            due("2: wild target", x.put(SUM, wild, 0, 0), UNKNOWN);
            due("2: wild left", x.put(SUM, 0, wild, 0), UNKNOWN);
            due("2: wild right", x.put(SUM, 0, 0, wild), UNKNOWN);
        }
        due("2: none was put", x.count(0), 0);
        due("2: a copy's right is no matter", x.put(COPY, 6, 6, Integer.MIN_VALUE), 0);
        for (int s = 1; s < 10; s++) {
            due("2: number", x.put(s % 5, 6, 0, 6), s);
        }
        due("2: full", x.put(SUM, 0, 0, 0), FULL);
        due("2: unknown ahead of full", x.put(SUM, 7, 0, 0), UNKNOWN);
        due("2: outside ahead of full", x.put(9, 0, 0, 0), OUTSIDE);
        due("2: ten", x.count(0), 10);
        x.drop(4);
        due("2: room again", x.put(SUM, 0, 0, 0), 9);
    }

    private static void drop() {
        StepRegisters x = new StepRegisters();
        due("3: none", x.drop(0), UNKNOWN);
        for (int s = 0; s < 10; s++) {
            x.put(s % 4 + 1, s % 7, (s + 1) % 7, (s + 2) % 7);
        }
        due("3: below", x.drop(-1), UNKNOWN);
        due("3: above", x.drop(10), UNKNOWN);
        for (int wild : WILD) {
            due("3: wild", x.drop(wild), UNKNOWN);
        }
        due("3: middle", x.drop(3), 9);
        for (int s = 0; s < 9; s++) {
            int was = s < 3 ? s : s + 1;
            due("3: kind", x.told(s, 0), was % 4 + 1);
            due("3: target", x.told(s, 1), was % 7);
            due("3: left", x.told(s, 2), (was + 1) % 7);
            due("3: right", x.told(s, 3), (was + 2) % 7);
        }
        due("3: no such", x.told(9, 0), UNKNOWN);
        due("3: first", x.drop(0), 8);
        due("3: second is first", x.told(0, 1), 1);
        due("3: last", x.drop(7), 7);
        due("3: last is gone", x.drop(7), UNKNOWN);
        for (int s = 6; s >= 0; s--) {
            due("3: all", x.drop(0), s);
        }
        due("3: empty", x.plan(3, 1, 0), 0);
    }

    private static void cross() {
        StepRegisters x = new StepRegisters();
        due("4: none", x.cross(0), UNKNOWN);
        x.put(COPY, 1, 2, 3);
        x.put(DIFFERENCE, 4, 5, 6);
        x.put(SUM, 0, 1, 1);
        due("4: a copy", x.cross(0), NO);
        due("4: a copy's left stays", x.told(0, 2), 2);
        due("4: difference", x.cross(1), 1);
        due("4: target", x.told(1, 1), 4);
        due("4: left", x.told(1, 2), 6);
        due("4: right", x.told(1, 3), 5);
        due("4: sight", x.sight(2), 6);
        x.set(6, 10);
        x.set(5, 3);
        x.run(1, 0);
        due("4: value", x.value(4), 7);
        due("4: like ones", x.cross(2), 2);
        due("4: below", x.cross(-1), UNKNOWN);
        due("4: above", x.cross(3), UNKNOWN);
    }

    private static void told() {
        StepRegisters x = new StepRegisters();
        x.put(COPY, 1, 2, 3);
        x.put(LESSER, 4, 5, 6);
        int[][] want = {{0, 1, 2, NONE}, {4, 4, 5, 6}};
        for (int s = 0; s < 2; s++) {
            for (int what = 0; what < 4; what++) {
                due("5: told(" + s + ", " + what + ")", x.told(s, what), want[s][what]);
            }
            due("5: above", x.told(s, 4), OUTSIDE);
            due("5: below", x.told(s, -1), OUTSIDE);
        }
        due("5: no such", x.told(2, 0), UNKNOWN);
        due("5: no such, ahead of what", x.told(2, 4), UNKNOWN);
        due("5: below", x.told(-1, 9), UNKNOWN);
    }

    private static void free() {
        StepRegisters x = new StepRegisters();
        due("6: again", x.free(1, 1), 2);
        due("6: six", x.free(6, 1), 66);
        due("6: off", x.free(1, 0), 64);
        due("6: off again", x.free(1, 0), 64);
        for (int d = 1; d <= 6; d++) {
            x.free(d, 1);
        }
        due("6: all", x.free(3, 1), 126);
        due("6: zero", x.free(0, 1), OUTSIDE);
        due("6: seven", x.free(7, 0), OUTSIDE);
        due("6: on", x.free(1, 2), OUTSIDE);
        due("6: on below", x.free(1, -1), OUTSIDE);
        for (int wild : WILD) {
            due("6: wild", x.free(wild, 0), OUTSIDE);
            due("6: wild on", x.free(2, wild), OUTSIDE);
        }
        due("6: as before", x.free(2, 1), 126);
        x.put(COPY, 6, 0, 0);
        due("6: six is free by hand", x.hand(0), 1);
        x.free(6, 0);
        due("6: and is not", x.hand(0), 2);
    }

    private static void setAndValue() {
        StepRegisters x = new StepRegisters();
        due("7: one", x.set(6, -5), 1);
        due("7: same", x.set(6, -5), 1);
        due("7: least", x.set(0, Integer.MIN_VALUE), 2);
        due("7: greatest", x.set(1, Integer.MAX_VALUE), 3);
        due("7: zero", x.set(6, 0), 2);
        due("7: unknown", x.set(7, 1), UNKNOWN);
        due("7: unknown", x.set(-1, 1), UNKNOWN);
        due("8: least", x.value(0), Integer.MIN_VALUE);
        due("8: greatest", x.value(1), Integer.MAX_VALUE);
        due("8: zero", x.value(6), 0);
        due("8: unknown", x.value(7), -10000000001L);
        for (int wild : WILD) {
            due("7: wild", x.set(wild, 1), UNKNOWN);
            due("8: wild", x.value(wild), -10000000001L);
        }
    }

    private static void sight() {
        StepRegisters x = new StepRegisters();
        x.put(DIFFERENCE, 3, 1, 2);
        x.put(COPY, 5, 4, 6);
        x.put(LESSER, 0, 6, 6);
        int[] want = {1, 2, 3, 4, 5, 6, 6, 0};
        for (int i = 0; i < want.length; i++) {
            due("9: sight(" + i + ")", x.sight(i), want[i]);
        }
        due("9: behind", x.sight(8), NONE);
        for (int wild : WILD) {
            due("9: wild", x.sight(wild), NONE);
        }
        x.drop(0);
        due("9: dropped", x.sight(0), 4);
        due("9: shorter", x.sight(5), NONE);
    }

    private static void plan() {
        StepRegisters x = new StepRegisters();
        x.put(SUM, 0, 1, 2);
        for (int wild : new int[] {-1, 4, Integer.MIN_VALUE, Integer.MAX_VALUE}) {
            due("10: r", x.plan(wild, 0, 0), OUTSIDE);
            due("10: mode", x.plan(1, wild, 0), OUTSIDE);
            due("10: what", x.plan(1, 0, wild), OUTSIDE);
        }
        due("10: r 0", x.plan(0, 0, 0), OUTSIDE);
        due("10: mode 2", x.plan(1, 2, 0), OUTSIDE);
        due("10: what 3", x.plan(1, 0, 3), OUTSIDE);
        // 1 2 0, or turned 2 1 0: as cheap, but by the latter 0, 1, 2 lie in cells 0, 1, 2; cells decide ahead of turns.
        due("10: cost", x.plan(1, 0, 0), 1);
        due("10: not turned", x.plan(1, 0, 2), 0);
        due("11: not turned", x.place(1, 0, 1, 1), 2);
        due("10: filled", x.plan(3, 1, 1), 1);
        due("10: turned", x.plan(3, 1, 2), 1);
        due("11: turned", x.place(3, 1, 1, 1), 1);
        // 1 2 0 2 0: pays nothing more; 1 2 0 2 0 1 pays once with one register.
        x.put(COPY, 0, 2, 0);
        due("10: cost", x.plan(1, 0, 0), 1);
        x.put(COPY, 1, 1, 0);
        due("10: cost", x.plan(1, 0, 0), 2);
        due("10: by two", x.plan(2, 0, 0), 2);
        due("10: one register is the less", x.plan(2, 0, 1), 1);
        due("10: all are free", x.free(2, 1), 6);
        due("10: cost", x.plan(1, 0, 0), 1);
        // 0 1 2 2 0 2 pays, and a difference can't be turned; 1 0 2 2 0 2, a sum turned, does not.
        StepRegisters y = new StepRegisters();
        y.put(DIFFERENCE, 2, 0, 1);
        y.put(DIFFERENCE, 2, 2, 0);
        due("10: difference, mode 0", y.plan(1, 0, 0), 2);
        due("10: difference, mode 1", y.plan(1, 1, 0), 2);
        due("10: difference, turned", y.plan(1, 1, 2), 0);
        StepRegisters z = new StepRegisters();
        z.put(SUM, 2, 0, 1);
        z.put(DIFFERENCE, 2, 2, 0);
        due("10: sum, mode 0", z.plan(1, 0, 0), 2);
        due("10: sum, mode 1", z.plan(1, 1, 0), 1);
        due("10: sum, turned", z.plan(1, 1, 2), 1);
    }

    private static void planTies() {
        StepRegisters x = new StepRegisters();
        // 0 1 1 or 1 0 1: either order is as cheap, and not turned is the less.
        x.put(SUM, 1, 0, 1);
        due("10: a tie is not turned", x.plan(1, 1, 2), 0);
        // 0 1 with no free distance: one register pays 2, two pay 2; registers 0, 0 are less than 0, 1.
        StepRegisters y = new StepRegisters();
        y.free(1, 0);
        y.put(COPY, 1, 0, 0);
        due("10: as cheap by two", y.plan(2, 0, 0), 2);
        due("10: but one is less", y.plan(2, 0, 1), 1);
        due("11: cell 0", y.place(2, 0, 0, 1), 0);
        due("11: cell 1", y.place(2, 0, 1, 1), 1);
        // 3 5 6: of rows 3 5 6 and 6 5 3 the lesser variable has the lesser cell.
        StepRegisters z = new StepRegisters();
        z.put(SUM, 6, 3, 5);
        due("11: 3", z.place(1, 0, 3, 1), 0);
        due("11: 5", z.place(1, 0, 5, 1), 1);
        due("11: 6", z.place(1, 0, 6, 1), 2);
        // 5 3 6 in the sight: 3 is in the middle.
        StepRegisters w = new StepRegisters();
        w.put(DIFFERENCE, 6, 5, 3);
        due("11: 3", w.place(1, 1, 3, 1), 1);
        due("11: 5", w.place(1, 1, 5, 1), 0);
        due("11: 6", w.place(1, 1, 6, 1), 2);
    }

    private static void place() {
        StepRegisters x = new StepRegisters();
        x.put(COPY, 5, 3, 0);
        due("11: not used, ahead of the rest", x.place(9, 9, 0, 9), UNKNOWN);
        due("11: no variable", x.place(1, 0, 7, 0), UNKNOWN);
        due("11: no variable", x.place(1, 0, -1, 0), UNKNOWN);
        due("11: r", x.place(0, 0, 3, 0), OUTSIDE);
        due("11: r", x.place(4, 0, 3, 0), OUTSIDE);
        due("11: mode", x.place(1, 2, 3, 0), OUTSIDE);
        due("11: mode", x.place(1, -1, 3, 0), OUTSIDE);
        due("11: what", x.place(1, 0, 3, 2), OUTSIDE);
        due("11: what", x.place(1, 0, 3, -1), OUTSIDE);
        due("11: register", x.place(3, 0, 5, 0), 0);
        due("11: cell", x.place(3, 0, 5, 1), 1);
        for (int wild : WILD) {
            due("11: wild", x.place(1, 0, wild, 0), UNKNOWN);
        }
        // Two rows that are seen by turns want two registers: 0 2 1 3 0 2 1 3 ..
        StepRegisters y = new StepRegisters();
        for (int s = 0; s < 4; s++) {
            y.put(COPY, 2, 0, 0);
            y.put(COPY, 3, 1, 0);
        }
        // 0 2 1 3 0 2 1 3 0 2 1 3 0 2 1 3 in one row pays for 3 0 each time.
        due("11: by one", y.plan(1, 0, 0), 4);
        due("11: by two", y.plan(2, 0, 0), 2);
        due("11: 0", y.place(2, 0, 0, 0), 0);
        due("11: 1", y.place(2, 0, 1, 0), 0);
        due("11: 2", y.place(2, 0, 2, 0), 1);
        due("11: 3", y.place(2, 0, 3, 0), 1);
    }

    private static void step() {
        StepRegisters x = new StepRegisters();
        x.put(DIFFERENCE, 6, 5, 3);
        x.put(COPY, 5, 5, 0);
        // 5 3 6 5 5: one of the three steps pays whatever the cells, so 3, 5, 6 lie in 0, 1, 2.
        int[][] want = {{5, 1, 0}, {3, 0, -1}, {6, 1, 0}, {5, 0, -1}, {5, 0, 0}};
        for (int i = 0; i < want.length; i++) {
            for (int what = 0; what < 3; what++) {
                due("12: step(1, 0, " + i + ", " + what + ")", x.step(1, 0, i, what), want[i][what]);
            }
        }
        due("12: behind", x.step(1, 0, 5, 0), NONE);
        due("12: below", x.step(1, 0, -1, 2), NONE);
        due("12: what, ahead of none", x.step(1, 0, 5, 3), OUTSIDE);
        due("12: what", x.step(1, 0, 0, -1), OUTSIDE);
        due("12: r", x.step(0, 0, 0, 0), OUTSIDE);
        due("12: r", x.step(4, 0, 0, 0), OUTSIDE);
        due("12: mode", x.step(1, 2, 0, 0), OUTSIDE);
        for (int wild : WILD) {
            due("12: wild", x.step(1, 0, wild, 1), NONE);
        }
        // A turned sum is seen turned: 1 0 2 2 0 2.
        StepRegisters z = new StepRegisters();
        z.put(SUM, 2, 0, 1);
        z.put(DIFFERENCE, 2, 2, 0);
        due("12: turned", z.step(1, 1, 0, 0), 1);
        due("12: turned", z.step(1, 1, 1, 0), 0);
        due("12: back", z.step(1, 1, 4, 2), z.place(1, 1, 0, 1) - z.place(1, 1, 2, 1));
        due("12: not turned", z.step(1, 0, 0, 0), 0);
    }

    private static void run() {
        StepRegisters x = new StepRegisters();
        x.set(0, Integer.MAX_VALUE);
        x.set(1, 2);
        x.put(SUM, 2, 0, 1);
        x.put(DIFFERENCE, 3, 2, 1);
        x.put(PRODUCT, 4, 0, 1);
        x.put(LESSER, 5, 2, 1);
        x.put(COPY, 6, 4, 0);
        due("13: r", x.run(0, 0), OUTSIDE);
        due("13: r", x.run(4, 0), OUTSIDE);
        due("13: mode", x.run(1, 2), OUTSIDE);
        due("13: mode", x.run(1, -1), OUTSIDE);
        due("13: nothing was done", x.value(2), 0);
        due("13: loads", x.run(2, 1), x.plan(2, 1, 0));
        due("13: sum wraps", x.value(2), Integer.MIN_VALUE + 1);
        due("13: difference wraps", x.value(3), Integer.MAX_VALUE);
        due("13: product wraps", x.value(4), -2);
        due("13: lesser", x.value(5), Integer.MIN_VALUE + 1);
        due("13: copy", x.value(6), -2);
        due("13: as it was", x.value(0), Integer.MAX_VALUE);
        StepRegisters y = new StepRegisters();
        y.set(0, 3);
        y.put(PRODUCT, 0, 0, 0);
        due("13: once", y.run(1, 0), 1);
        due("13: once", y.value(0), 9);
        due("13: once more", y.run(3, 1), 1);
        due("13: once more", y.value(0), 81);
    }

    private static void weight() {
        StepRegisters x = new StepRegisters();
        due("14: none", x.weight(0, 1), 0);
        x.put(SUM, 2, 0, 1);
        x.put(SUM, 1, 2, 2);
        x.put(COPY, 0, 0, 0);
        // 0 1 2 2 2 1 0 0
        due("14: 0 1", x.weight(0, 1), 2);
        due("14: 1 0", x.weight(1, 0), 2);
        due("14: 1 2", x.weight(1, 2), 2);
        due("14: 0 2", x.weight(0, 2), 0);
        due("14: same", x.weight(2, 2), 0);
        due("14: not used", x.weight(5, 6), 0);
        x.plan(1, 1, 0);
        due("14: after a plan", x.weight(0, 1), 2);
        for (int wild : new int[] {7, -1, Integer.MIN_VALUE, Integer.MAX_VALUE}) {
            due("14: unknown", x.weight(wild, 0), UNKNOWN);
            due("14: unknown", x.weight(0, wild), UNKNOWN);
            due("14: unknown", x.weight(wild, wild), UNKNOWN);
        }
    }

    private static void taken() {
        StepRegisters x = new StepRegisters();
        due("15: none", x.taken(0, 1), 0);
        // 0 1 2 0 1 2: 01 2, 12 2, 02 1: 02 would close a ring.
        x.put(SUM, 2, 0, 1);
        x.put(SUM, 2, 0, 1);
        due("15: 0 1", x.taken(0, 1), 1);
        due("15: 2 1", x.taken(2, 1), 1);
        due("15: 0 2", x.taken(0, 2), 0);
        due("15: same", x.taken(1, 1), 0);
        due("15: cost", x.count(3), 2);
        due("15: pairs", x.count(4), 2);
        // 1 0 2 0 3 0: three pairs of 0, of like weights (1 0: 1, 0 2: 2, 0 3: 2): two are taken.
        StepRegisters y = new StepRegisters();
        y.put(DIFFERENCE, 2, 1, 0);
        y.put(DIFFERENCE, 0, 0, 3);
        due("15: 0 2", y.taken(0, 2), 1);
        due("15: 0 3", y.taken(3, 0), 1);
        due("15: 0 1", y.taken(0, 1), 0);
        due("15: cost", y.count(3), 2);
        // 4 3 2 1 0: all of weight 1, the whole row.
        StepRegisters z = new StepRegisters();
        z.put(SUM, 2, 4, 3);
        z.put(COPY, 0, 1, 0);
        due("15: pairs", z.count(4), 4);
        due("15: cost", z.count(3), 1);
        for (int wild : new int[] {7, -1, Integer.MIN_VALUE, Integer.MAX_VALUE}) {
            due("15: unknown", x.taken(wild, 0), UNKNOWN);
            due("15: unknown", x.taken(0, wild), UNKNOWN);
        }
    }

    private static void exchange() {
        StepRegisters x = new StepRegisters();
        due("16: same", x.exchange(3, 3), 3);
        due("16: other", x.exchange(0, 6), 6);
        due("16: other one's", x.count(16), 0);
        due("16: back", x.exchange(6, 0), 6);
        due("16: back", x.count(10), 0);
        for (int wild : new int[] {7, -1, Integer.MIN_VALUE, Integer.MAX_VALUE}) {
            due("16: unknown", x.exchange(wild, 0), UNKNOWN);
            due("16: unknown", x.exchange(0, wild), UNKNOWN);
        }
        for (int v = 0; v < 7; v++) {
            due("16: as before", x.count(10 + v), v);
        }
    }

    private static void hand() {
        StepRegisters x = new StepRegisters();
        x.put(SUM, 2, 0, 1);
        x.put(DIFFERENCE, 2, 2, 0);
        // 0 1 2 2 0 2: 2 to 0 and back pays; turned 1 0 2 2 0 2: 0 to 2 before that, too.
        due("17: mode 0", x.hand(0), 3);
        due("17: mode 1", x.hand(1), 3);
        x.exchange(0, 1);
        // Cells of 0, 1, 2: 1, 0, 2. Not turned, 1 to 2 pays; turned, none does.
        due("17: mode 0", x.hand(0), 2);
        due("17: mode 1", x.hand(1), 1);
        x.exchange(2, 6);
        due("17: far away", x.hand(0), 4);
        x.free(5, 1);
        // 0 in 1, 1 in 0, 2 in 6: 0 to 2 is free now, 1 to 2 is not.
        due("17: five is free", x.hand(0), 2);
        due("17: five is free", x.hand(1), 1);
        due("17: outside", x.hand(2), OUTSIDE);
        for (int wild : WILD) {
            due("17: wild", x.hand(wild), OUTSIDE);
        }
    }

    private static void count() {
        StepRegisters x = new StepRegisters();
        x.put(SUM, 2, 0, 1);
        x.put(COPY, 6, 2, 0);
        x.put(PRODUCT, 0, 6, 2);
        // 0 1 2 2 6 6 2 0: weights 01 1, 12 1, 26 2, 02 1.
        int[] want = {3, 8, 71, 2, 3, 2, 0};
        for (int what = 0; what < want.length; what++) {
            due("18: count(" + what + ")", x.count(what), want[what]);
        }
        for (int what : new int[] {-1, 7, 8, 9, 17, Integer.MIN_VALUE, Integer.MAX_VALUE}) {
            due("18: outside", x.count(what), OUTSIDE);
        }
        x.image(1);
        due("18: images", x.count(6), 2);
        x.image(0);
        due("18: images", x.count(6), 3);
        // One variable alone: no weight, 1 to pay.
        StepRegisters y = new StepRegisters();
        y.put(COPY, 4, 4, 0);
        due("18: greedy", y.count(3), 1);
        due("18: pairs", y.count(4), 0);
        due("18: bound", y.count(5), 1);
        due("18: used", y.count(2), 16);
        // 0 1 0 2 0 3 0 1: weights 01 3, 02 2, 03 2: greedy takes two of them, bound leaves out three.
        StepRegisters z = new StepRegisters();
        z.put(SUM, 0, 0, 1);
        z.put(SUM, 3, 2, 0);
        z.put(COPY, 1, 0, 0);
        due("18: greedy", z.count(3), 3);
        due("18: bound", z.count(5), 1);
    }

    private static void imageAndRestore() {
        StepRegisters x = new StepRegisters();
        for (int wild : new int[] {2, -1, Integer.MIN_VALUE, Integer.MAX_VALUE}) {
            due("19: outside", x.image(wild), OUTSIDE);
            due("20: outside", x.restore(wild), OUTSIDE);
        }
        due("20: nothing was kept", x.restore(1), STATE);
        x.put(DIFFERENCE, 2, 0, 1);
        x.put(SUM, 0, 2, 0);
        x.set(0, 7);
        x.exchange(0, 1);
        x.free(3, 1);
        due("10: before", x.plan(1, 0, 0), 2);
        due("19: image", x.image(1), 1);
        due("20: the other one", x.restore(0), STATE);
        x.cross(0);
        x.put(COPY, 3, 4, 0);
        x.set(0, 1);
        x.set(5, 1);
        x.exchange(0, 6);
        x.free(2, 1);
        x.free(1, 0);
        // 1 0 2 2 0 0 4 3: three lie beside 0, but two cells at the most are free from any.
        due("10: between", x.plan(1, 0, 0), 2);
        due("10: between", x.plan(1, 1, 1), 1);
        due("19: second", x.image(0), 1);
        for (int again = 0; again < 2; again++) {
            due("20: restore", x.restore(1), 1);
            due("20: statements", x.count(0), 2);
            due("20: left", x.told(0, 2), 0);
            due("20: value", x.value(0), 7);
            due("20: value", x.value(5), 0);
            due("20: hand", x.count(10), 1);
            due("20: hand", x.count(16), 6);
            due("20: images", x.count(6), 3);
            due("20: plan", x.plan(1, 0, 0), 2);
            due("20: place", x.place(1, 0, 4, 0), UNKNOWN);
            due("20: free", x.free(3, 1), 10);
            x.drop(0);
            x.set(0, 99);
            x.exchange(3, 4);
            x.free(6, 1);
        }
        due("20: the other one", x.restore(0), 1);
        due("20: statements", x.count(0), 3);
        due("20: left", x.told(0, 2), 1);
        due("20: value", x.value(0), 1);
        due("20: hand", x.count(16), 1);
        due("20: plan", x.plan(1, 0, 0), 2);
        due("20: place", x.place(1, 0, 4, 0), 0);
        due("20: free", x.free(3, 1), 12);
        x.set(6, 42);
        due("19: in place of what was", x.image(0), 1);
        x.set(6, 0);
        x.restore(0);
        due("20: the newer one", x.value(6), 42);
    }

    private static void refusalsChangeNothing() {
        StepRegisters x = new StepRegisters();
        x.put(SUM, 2, 0, 1);
        x.image(0);
        x.drop(1);
        x.cross(-1);
        x.free(0, 1);
        x.free(2, 7);
        x.set(7, 1);
        x.exchange(0, 7);
        x.run(4, 0);
        x.image(2);
        x.restore(1);
        due("refused: count", x.count(0), 1);
        due("refused: left", x.told(0, 2), 0);
        due("refused: images", x.count(6), 1);
        due("refused: values", x.set(0, 0), 0);
        due("refused: hand", x.count(10), 0);
        due("refused: free", x.free(1, 1), 2);
    }
}
