/** The boundary cases of part 1 of the terms and of promises 1 to 9, sentence by sentence. */
public final class ProgramBoundariesTest {
    private static final int COPY = 0, SUM = 1, DIFFERENCE = 2, PRODUCT = 3, LESSER = 4;
    private static final int UNKNOWN = -1, OUTSIDE = -2, STATE = -3, FULL = -4, NO = -5, NONE = -6;
    private static final long NO_VALUE = -10000000001L;
    private static final int MIN = Integer.MIN_VALUE, MAX = Integer.MAX_VALUE;
    private static final Answers ANSWERS = new Answers();

    public static void main(String[] args) {
        newObject();
        objectsApart();
        lastCall();
        putNumbers();
        putKinds();
        putVariables();
        putFull();
        dropNumbers();
        dropBehind();
        crossNumbers();
        crossSides();
        toldWhat();
        freeSets();
        freeNumbers();
        setAndValue();
        sightEnds();
        seenOrder();
        usedSet();
        sums();
        differences();
        products();
        lessers();
        sameVariables();
        ANSWERS.end();
    }

    private static void due(String call, long got, long want) {
        ANSWERS.due(call, got, want);
    }

    private static void sentence(String words) {
        ANSWERS.sentence(words);
    }

    /** An object with so many STATEMENTS, all of them SUMS of unlike VARIABLES. */
    private static StepRegisters ofSums(int many) {
        StepRegisters x = new StepRegisters();
        for (int s = 0; s < many; s++) {
            x.put(SUM, s % 7, (s + 1) % 7, (s + 2) % 7);
        }
        return x;
    }

    private static void newObject() {
        sentence("promise 1: No STATEMENT");
        StepRegisters x = new StepRegisters();
        for (int what = 0; what <= 5; what++) {
            due("count(" + what + ")", x.count(what), 0);
        }
        for (int what = 0; what <= 3; what++) {
            due("told", x.told(0, what), UNKNOWN);
        }
        due("drop", x.drop(0), UNKNOWN);
        due("cross", x.cross(0), UNKNOWN);
        due("sight", x.sight(0), NONE);
        sentence("promise 1: 1 is FREE");
        for (int distance = 2; distance <= 6; distance++) {
            due("free", new StepRegisters().free(distance, 0), 2);
            due("free", new StepRegisters().free(distance, 1), 2 | 1 << distance);
        }
        due("free", new StepRegisters().free(1, 1), 2);
        due("free", new StepRegisters().free(1, 0), 0);
        sentence("promise 1: all VALUES 0");
        for (int v = 0; v <= 6; v++) {
            due("value", x.value(v), 0);
            due("set", x.set(v, 0), 0);
        }
        sentence("promise 1: no IMAGE is kept");
        due("count", x.count(6), 0);
        due("restore", x.restore(0), STATE);
        due("restore", x.restore(1), STATE);
    }

    private static void objectsApart() {
        sentence("promise 1: A new object, whatever was done to another one");
        StepRegisters x = ofSums(10);
        x.set(3, 4);
        x.free(5, 1);
        x.exchange(0, 6);
        x.image(1);
        x.plan(2, 1, 0);
        StepRegisters y = new StepRegisters();
        due("count", y.count(0), 0);
        due("count", y.count(6), 0);
        due("count", y.count(10), 0);
        due("value", y.value(3), 0);
        due("free", y.free(1, 1), 2);
        due("plan", y.plan(2, 1, 0), 0);
        y.put(COPY, 6, 6, 0);
        y.set(3, 1);
        due("count", x.count(0), 10);
        due("value", x.value(3), 4);
    }

    private static void lastCall() {
        sentence("An object is used for at most 512 calls");
        StepRegisters x = ofSums(10);
        for (int call = 11; call <= 511; call++) {
            if (call % 2 == 0) {
                x.free(call % 6 + 1, call >> 1 & 1);
            } else {
                x.run(call % 3 + 1, call >> 1 & 1);
            }
        }
        due("the 512th call", x.put(SUM, 0, 0, 0), FULL);
    }

    private static void putNumbers() {
        sentence("promise 2: A STATEMENT more: its number; THE PROGRAM has up to 10, numbered from 0 on");
        for (int kind = COPY; kind <= LESSER; kind++) {
            StepRegisters x = new StepRegisters();
            for (int s = 0; s < 10; s++) {
                due("put", x.put(kind, s % 7, 6 - s % 7, 3), s);
                due("count", x.count(0), s + 1);
                due("told", x.told(s, 1), s % 7);
            }
        }
    }

    private static void putKinds() {
        sentence("promise 2: OUTSIDE: the KIND, 0 to 4");
        for (int kind : Answers.beside(COPY, LESSER)) {
            due("put(" + kind + ", ..)", new StepRegisters().put(kind, 0, 0, 0), OUTSIDE);
        }
        due("put, the least", new StepRegisters().put(0, 0, 0, 0), 0);
        due("put, the greatest", new StepRegisters().put(4, 0, 0, 0), 0);
        sentence("promise 2: OUTSIDE .. (ahead of UNKNOWN)");
        for (int v : new int[] {-1, 7}) {
            for (int kind : new int[] {-1, 5}) {
                due("put, the TARGET", new StepRegisters().put(kind, v, 0, 0), OUTSIDE);
                due("put, LEFT", new StepRegisters().put(kind, 0, v, 0), OUTSIDE);
                due("put, RIGHT", new StepRegisters().put(kind, 0, 0, v), OUTSIDE);
            }
        }
    }

    private static void putVariables() {
        for (int kind = COPY; kind <= LESSER; kind++) {
            sentence("promise 2: UNKNOWN: the TARGET, LEFT, RIGHT; VARIABLES are 0 to 6");
            StepRegisters x = new StepRegisters();
            due("put, all least", x.put(kind, 0, 0, 0), 0);
            due("put, all greatest", x.put(kind, 6, 6, 6), 1);
            for (int v : Answers.beside(0, 6)) {
                due("put, TARGET " + v, x.put(kind, v, 0, 0), UNKNOWN);
                due("put, LEFT " + v, x.put(kind, 0, v, 0), UNKNOWN);
                if (kind != COPY) {
                    due("put, RIGHT " + v, x.put(kind, 0, 0, v), UNKNOWN);
                }
            }
            due("count", x.count(0), 2);
        }
        sentence("promise 2: RIGHT (not of a COPY); RIGHT is no matter");
        for (int v : Answers.beside(0, 6)) {
            StepRegisters x = new StepRegisters();
            due("put, RIGHT " + v, x.put(COPY, 1, 0, v), 0);
            due("told", x.told(0, 3), NONE);
            due("count", x.count(1), 2);
            due("count", x.count(2), 3);
            due("plan", x.plan(3, 1, 0), 1);
            due("run", x.run(1, 0), 1);
        }
    }

    private static void putFull() {
        sentence("promise 2: FULL; THE PROGRAM has up to 10 STATEMENTS");
        StepRegisters x = ofSums(9);
        due("put, the tenth", x.put(SUM, 0, 0, 0), 9);
        for (int kind = COPY; kind <= LESSER; kind++) {
            due("put, one more", x.put(kind, 0, 0, 0), FULL);
        }
        due("count", x.count(0), 10);
        due("told", x.told(10, 0), UNKNOWN);
        x.drop(9);
        due("put, the tenth again", x.put(COPY, 1, 1, 1), 9);
        due("put, one more", x.put(COPY, 0, 0, 0), FULL);
        sentence("Calls that are refused answer the first that fits: UNKNOWN, OUTSIDE .. FULL");
        due("put, a TARGET", x.put(COPY, 7, 0, 0), UNKNOWN);
        due("put, a LEFT", x.put(COPY, 0, -1, 0), UNKNOWN);
        due("put, a RIGHT", x.put(SUM, 0, 0, 7), UNKNOWN);
        due("put, a COPY's RIGHT", x.put(COPY, 0, 0, 7), FULL);
        due("put, a KIND", x.put(5, 0, 0, 0), OUTSIDE);
        due("put, a KIND", x.put(-1, 0, 0, 0), OUTSIDE);
        due("put, all three", x.put(5, 7, 7, 7), OUTSIDE);
    }

    private static void dropNumbers() {
        sentence("promise 3: UNKNOWN");
        due("drop of none", new StepRegisters().drop(0), UNKNOWN);
        due("drop of none", new StepRegisters().drop(-1), UNKNOWN);
        for (int many : new int[] {1, 5, 10}) {
            StepRegisters x = ofSums(many);
            for (int s : Answers.beside(0, many - 1)) {
                due("drop(" + s + ") of " + many, x.drop(s), UNKNOWN);
            }
            due("count", x.count(0), many);
            sentence("promise 3: A STATEMENT goes: how many there are");
            due("drop, the last", x.drop(many - 1), many - 1);
            due("drop, gone", x.drop(many - 1), UNKNOWN);
            due("drop, the first", ofSums(many).drop(0), many - 1);
        }
        StepRegisters x = ofSums(10);
        for (int left = 9; left >= 0; left--) {
            due("drop", x.drop(left / 2), left);
        }
        due("count", x.count(1), 0);
        due("put, from 0 on again", x.put(COPY, 0, 0, 0), 0);
    }

    private static void dropBehind() {
        sentence("when one goes, those behind it are one less");
        for (int gone = 0; gone < 10; gone++) {
            StepRegisters x = new StepRegisters();
            for (int s = 0; s < 10; s++) {
                x.put(s % 4 + 1, s % 7, (s + 1) % 7, (s + 3) % 7);
            }
            due("drop(" + gone + ")", x.drop(gone), 9);
            for (int s = 0; s < 9; s++) {
                int was = s < gone ? s : s + 1;
                due("KIND", x.told(s, 0), was % 4 + 1);
                due("TARGET", x.told(s, 1), was % 7);
                due("LEFT", x.told(s, 2), (was + 1) % 7);
                due("RIGHT", x.told(s, 3), (was + 3) % 7);
            }
            due("told", x.told(9, 0), UNKNOWN);
        }
    }

    private static void crossNumbers() {
        sentence("promise 4: UNKNOWN");
        due("cross of none", new StepRegisters().cross(0), UNKNOWN);
        due("cross of none", new StepRegisters().cross(-1), UNKNOWN);
        for (int many : new int[] {1, 5, 10}) {
            StepRegisters x = ofSums(many);
            for (int s : Answers.beside(0, many - 1)) {
                due("cross(" + s + ") of " + many, x.cross(s), UNKNOWN);
            }
            due("cross, the first", x.cross(0), 0);
            due("cross, the last", x.cross(many - 1), many - 1);
        }
        sentence("promise 4: NO: a COPY");
        StepRegisters x = new StepRegisters();
        for (int s = 0; s < 10; s++) {
            x.put(s % 2 == 0 ? COPY : LESSER, 1, 2, 3);
        }
        for (int s = 0; s < 10; s++) {
            due("cross(" + s + ")", x.cross(s), s % 2 == 0 ? NO : s);
            due("LEFT", x.told(s, 2), s % 2 == 0 ? 2 : 3);
            due("RIGHT", x.told(s, 3), s % 2 == 0 ? NONE : 2);
        }
    }

    private static void crossSides() {
        sentence("promise 4: LEFT and RIGHT of a STATEMENT are exchanged (its TARGET stays): its number");
        for (int kind = SUM; kind <= LESSER; kind++) {
            StepRegisters x = ofSums(3);
            x.put(kind, 6, 0, 5);
            x.put(kind, 4, 4, 4);
            due("cross", x.cross(3), 3);
            due("KIND", x.told(3, 0), kind);
            due("TARGET", x.told(3, 1), 6);
            due("LEFT", x.told(3, 2), 5);
            due("RIGHT", x.told(3, 3), 0);
            due("sight", x.sight(9), 5);
            due("sight", x.sight(10), 0);
            due("sight", x.sight(11), 6);
            due("the one before", x.told(2, 2), 3);
            due("the one behind", x.told(4, 2), 4);
            due("cross back", x.cross(3), 3);
            due("LEFT", x.told(3, 2), 0);
            due("RIGHT", x.told(3, 3), 5);
            due("cross of like ones", x.cross(4), 4);
            due("LEFT", x.told(4, 2), 4);
            due("RIGHT", x.told(4, 3), 4);
        }
    }

    private static void toldWhat() {
        sentence("promise 5: the KIND (what = 0), TARGET (1), LEFT (2), RIGHT (3; NONE: a COPY)");
        StepRegisters x = new StepRegisters();
        for (int s = 0; s < 10; s++) {
            x.put(s % 5, 6, s % 7, 0);
        }
        for (int s = 0; s < 10; s++) {
            due("KIND", x.told(s, 0), s % 5);
            due("TARGET", x.told(s, 1), 6);
            due("LEFT", x.told(s, 2), s % 7);
            due("RIGHT", x.told(s, 3), s % 5 == COPY ? NONE : 0);
        }
        sentence("promise 5: OUTSIDE");
        for (int what : Answers.beside(0, 3)) {
            due("told(0, " + what + ")", x.told(0, what), OUTSIDE);
            due("told(9, " + what + ")", x.told(9, what), OUTSIDE);
        }
        sentence("promise 5: UNKNOWN");
        for (int s : Answers.beside(0, 9)) {
            due("told(" + s + ", 0)", x.told(s, 0), UNKNOWN);
            due("told(" + s + ", 3)", x.told(s, 3), UNKNOWN);
        }
        sentence("Calls that are refused answer the first that fits: UNKNOWN, OUTSIDE");
        for (int what : Answers.beside(0, 3)) {
            due("told(10, " + what + ")", x.told(10, what), UNKNOWN);
            due("told(-1, " + what + ")", x.told(-1, what), UNKNOWN);
            due("told of none", new StepRegisters().told(0, what), UNKNOWN);
        }
    }

    private static void freeSets() {
        sentence("promise 6: A distance is FREE (on = 1), is not (0): the set of all that are FREE");
        StepRegisters x = new StepRegisters();
        int set = 2;
        for (int distance = 1; distance <= 6; distance++) {
            set |= 1 << distance;
            due("free on", x.free(distance, 1), set);
            due("free on again", x.free(distance, 1), set);
        }
        due("all", set, 126);
        for (int distance = 6; distance >= 1; distance--) {
            set &= ~(1 << distance);
            due("free off", x.free(distance, 0), set);
            due("free off again", x.free(distance, 0), set);
        }
        due("none", set, 0);
        for (int distance = 1; distance <= 6; distance++) {
            due("alone", x.free(distance, 1), 1 << distance);
            due("and not", x.free(distance, 0), 0);
        }
    }

    private static void freeNumbers() {
        sentence("promise 6: OUTSIDE: both");
        StepRegisters x = new StepRegisters();
        for (int distance : Answers.beside(1, 6)) {
            due("free(" + distance + ", 1)", x.free(distance, 1), OUTSIDE);
            due("free(" + distance + ", 0)", x.free(distance, 0), OUTSIDE);
            due("free(" + distance + ", 2)", x.free(distance, 2), OUTSIDE);
        }
        for (int on : Answers.beside(0, 1)) {
            due("free(1, " + on + ")", x.free(1, on), OUTSIDE);
            due("free(6, " + on + ")", x.free(6, on), OUTSIDE);
        }
        due("as before", x.free(1, 1), 2);
    }

    private static void setAndValue() {
        sentence("promise 7: how many VARIABLES have one other than 0");
        StepRegisters x = new StepRegisters();
        int[] values = {MIN, -1, 1, MAX, 65536, MIN + 1, 256};
        for (int v = 0; v <= 6; v++) {
            due("set", x.set(v, values[v]), v + 1);
        }
        sentence("promise 7: (or the same)");
        for (int v = 0; v <= 6; v++) {
            due("set", x.set(v, values[v]), 7);
        }
        sentence("promise 8: The VALUE of a VARIABLE");
        for (int v = 0; v <= 6; v++) {
            due("value", x.value(v), values[v]);
        }
        sentence("promises 7 and 8: UNKNOWN; In GONE: UNKNOWN");
        for (int v : Answers.beside(0, 6)) {
            due("set(" + v + ", 0)", x.set(v, 0), UNKNOWN);
            due("set(" + v + ", 5)", x.set(v, 5), UNKNOWN);
            due("value(" + v + ")", x.value(v), NO_VALUE);
        }
        sentence("promise 7: how many VARIABLES have one other than 0");
        for (int v = 6; v >= 0; v--) {
            due("set to 0", x.set(v, 0), v);
            due("value", x.value(v), 0);
        }
    }

    private static void sightEnds() {
        sentence("promise 9: from 0 on; NONE: there is none such (i below 0, too)");
        for (int many = 0; many <= 10; many++) {
            StepRegisters sums = ofSums(many);
            StepRegisters copies = new StepRegisters();
            for (int s = 0; s < many; s++) {
                copies.put(COPY, 5, 4, 0);
            }
            for (int i : Answers.beside(0, 3 * many - 1)) {
                due("sight(" + i + ") of " + many, sums.sight(i), NONE);
            }
            for (int i : Answers.beside(0, 2 * many - 1)) {
                due("sight(" + i + ") of " + many + " COPIES", copies.sight(i), NONE);
            }
            due("count", sums.count(1), 3 * many);
            due("count", copies.count(1), 2 * many);
            if (many > 0) {
                due("sight, the first", sums.sight(0), 1);
                due("sight, the last", sums.sight(3 * many - 1), (many - 1) % 7);
                due("sight, the first", copies.sight(0), 4);
                due("sight, the last", copies.sight(2 * many - 1), 5);
            }
        }
    }

    private static void seenOrder() {
        sentence("What a STATEMENT SEES: LEFT, RIGHT, TARGET, in this order; a COPY: LEFT, TARGET");
        for (int kind = COPY; kind <= LESSER; kind++) {
            StepRegisters x = new StepRegisters();
            x.put(kind, 4, 2, 0);
            x.put(COPY, 6, 6, 3);
            x.put(kind, 1, 5, 5);
            int[] want = kind == COPY ? new int[] {2, 4, 6, 6, 5, 1, NONE} : new int[] {2, 0, 4, 6, 6, 5, 5, 1, NONE};
            for (int i = 0; i < want.length; i++) {
                due("sight(" + i + "), KIND " + kind, x.sight(i), want[i]);
            }
        }
    }

    private static void usedSet() {
        sentence("A VARIABLE is USED, if any STATEMENT SEES it");
        for (int v = 0; v <= 6; v++) {
            int other = (v + 1) % 7;
            StepRegisters x = new StepRegisters();
            x.put(SUM, v, other, other);
            due("as TARGET", x.count(2), 1 << v | 1 << other);
            x.drop(0);
            due("none", x.count(2), 0);
            x.put(SUM, other, v, other);
            due("as LEFT", x.count(2), 1 << v | 1 << other);
            x.drop(0);
            x.put(SUM, other, other, v);
            due("as RIGHT", x.count(2), 1 << v | 1 << other);
            x.drop(0);
            x.put(COPY, other, other, v);
            due("as a COPY's RIGHT", x.count(2), 1 << other);
            x.drop(0);
            x.put(COPY, v, v, other);
            due("alone", x.count(2), 1 << v);
        }
    }

    /** The VALUE that one STATEMENT of two VALUES makes. */
    private static long made(int kind, int left, int right) {
        StepRegisters x = new StepRegisters();
        x.set(3, left);
        x.set(5, right);
        x.put(kind, 1, 3, 5);
        x.run(2, 1);
        due("LEFT stays", x.value(3), left);
        due("RIGHT stays", x.value(5), right);
        return x.value(1);
    }

    private static void sums() {
        sentence("1 SUM: LEFT and RIGHT, added. As ints, wrapping");
        due("MAX + 1", made(SUM, MAX, 1), MIN);
        due("1 + MAX", made(SUM, 1, MAX), MIN);
        due("MAX + MAX", made(SUM, MAX, MAX), -2);
        due("MIN + -1", made(SUM, MIN, -1), MAX);
        due("MIN + MIN", made(SUM, MIN, MIN), 0);
        due("MIN + MAX", made(SUM, MIN, MAX), -1);
        due("MAX + 0", made(SUM, MAX, 0), MAX);
        sentence("0 COPY: the TARGET's VALUE becomes the LEFT one's");
        due("MIN", made(COPY, MIN, 4), MIN);
        due("MAX", made(COPY, MAX, 4), MAX);
        due("0", made(COPY, 0, 4), 0);
    }

    private static void differences() {
        sentence("2 DIFFERENCE: LEFT less RIGHT. As ints, wrapping");
        due("MIN - 1", made(DIFFERENCE, MIN, 1), MAX);
        due("0 - MIN", made(DIFFERENCE, 0, MIN), MIN);
        due("-1 - MIN", made(DIFFERENCE, -1, MIN), MAX);
        due("MAX - -1", made(DIFFERENCE, MAX, -1), MIN);
        due("MAX - MIN", made(DIFFERENCE, MAX, MIN), -1);
        due("MIN - MAX", made(DIFFERENCE, MIN, MAX), 1);
        due("3 - 5", made(DIFFERENCE, 3, 5), -2);
    }

    private static void products() {
        sentence("3 PRODUCT: LEFT times RIGHT. As ints, wrapping");
        due("65536 * 65536", made(PRODUCT, 65536, 65536), 0);
        due("65536 * 32768", made(PRODUCT, 65536, 32768), MIN);
        due("46341 * 46341", made(PRODUCT, 46341, 46341), -2147479015);
        due("MAX * MAX", made(PRODUCT, MAX, MAX), 1);
        due("MIN * -1", made(PRODUCT, MIN, -1), MIN);
        due("MIN * MIN", made(PRODUCT, MIN, MIN), 0);
        due("MAX * 2", made(PRODUCT, MAX, 2), -2);
        due("-1 * -1", made(PRODUCT, -1, -1), 1);
    }

    private static void lessers() {
        sentence("4 LESSER: the lesser one of LEFT and RIGHT");
        due("MIN, MAX", made(LESSER, MIN, MAX), MIN);
        due("MAX, MIN", made(LESSER, MAX, MIN), MIN);
        due("-1, 0", made(LESSER, -1, 0), -1);
        due("0, -1", made(LESSER, 0, -1), -1);
        due("5, 5", made(LESSER, 5, 5), 5);
        due("MAX, MAX", made(LESSER, MAX, MAX), MAX);
        due("MIN, 1", made(LESSER, MIN, 1), MIN);
    }

    private static void sameVariables() {
        sentence("a TARGET, a LEFT and a RIGHT VARIABLE (which may be the same)");
        int[] all = {-7, -14, 0, 49, -7};
        int[] leftIsTarget = {-7, -4, -10, -21, -7};
        int[] rightIsTarget = {3, -4, 10, -21, -7};
        for (int kind = COPY; kind <= LESSER; kind++) {
            StepRegisters x = new StepRegisters();
            x.set(6, -7);
            due("put", x.put(kind, 6, 6, 6), 0);
            due("run", x.run(3, 1), 1);
            due("all the same, KIND " + kind, x.value(6), all[kind]);
            StepRegisters y = new StepRegisters();
            y.set(6, -7);
            y.set(0, 3);
            y.put(kind, 6, 6, 0);
            y.run(1, 1);
            due("LEFT and TARGET, KIND " + kind, y.value(6), leftIsTarget[kind]);
            StepRegisters z = new StepRegisters();
            z.set(6, -7);
            z.set(0, 3);
            z.put(kind, 6, 0, 6);
            z.run(1, 1);
            due("RIGHT and TARGET, KIND " + kind, z.value(6), rightIsTarget[kind]);
        }
    }
}
