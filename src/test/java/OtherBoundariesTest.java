/** The boundary cases of part 3 of the terms and of promises 14 to 18, sentence by sentence. */
public final class OtherBoundariesTest {
    private static final int COPY = 0, SUM = 1, DIFFERENCE = 2, LESSER = 4;
    private static final int UNKNOWN = -1, OUTSIDE = -2;
    private static final Answers ANSWERS = new Answers();

    public static void main(String[] args) {
        variables();
        weightOfOne();
        weightMost();
        weightBetweenStatements();
        weightNotTurned();
        takenNone();
        takenByWeight();
        takenByLesser();
        takenByOther();
        takenTwiceAtMost();
        takenNoRing();
        takenNoRingOfThree();
        takenNoRingOfFour();
        takenAllSeven();
        takenNow();
        bound();
        boundOfStar();
        exchangeCells();
        handNone();
        handDistances();
        handUnused();
        handTurned();
        handMost();
        countWhat();
        ANSWERS.end();
    }

    private static void due(String call, long got, long want) {
        ANSWERS.due(call, got, want);
    }

    private static void sentence(String words) {
        ANSWERS.sentence(words);
    }

    /** Its SIGHT is this row, which is made of COPIES and, where it is of an odd length, of one DIFFERENCE first. */
    private static StepRegisters seeing(int... row) {
        StepRegisters x = new StepRegisters();
        int i = 0;
        if (row.length % 2 == 1) {
            x.put(DIFFERENCE, row[2], row[0], row[1]);
            i = 3;
        }
        for (; i < row.length; i += 2) {
            x.put(COPY, row[i + 1], row[i], 0);
        }
        due("the row's length", x.count(1), row.length);
        return x;
    }

    private static void variables() {
        sentence("promises 14, 15, 16: UNKNOWN: both");
        StepRegisters x = seeing(0, 6);
        for (int v : Answers.beside(0, 6)) {
            due("weight(" + v + ", 0)", x.weight(v, 0), UNKNOWN);
            due("weight(6, " + v + ")", x.weight(6, v), UNKNOWN);
            due("weight(" + v + ", " + v + ")", x.weight(v, v), UNKNOWN);
            due("taken(" + v + ", 0)", x.taken(v, 0), UNKNOWN);
            due("taken(6, " + v + ")", x.taken(6, v), UNKNOWN);
            due("taken(" + v + ", " + v + ")", x.taken(v, v), UNKNOWN);
            due("exchange(" + v + ", 0)", x.exchange(v, 0), UNKNOWN);
            due("exchange(6, " + v + ")", x.exchange(6, v), UNKNOWN);
            due("exchange(" + v + ", " + v + ")", x.exchange(v, v), UNKNOWN);
        }
        due("weight, least and greatest", x.weight(0, 6), 1);
        due("weight, greatest and least", x.weight(6, 0), 1);
        due("taken, least and greatest", x.taken(0, 6), 1);
        due("taken, greatest and least", x.taken(6, 0), 1);
        due("exchange, least and greatest", x.exchange(0, 6), 6);
    }

    private static void weightOfOne() {
        sentence("promise 14: 0 of one and the same; The WEIGHT of two unlike VARIABLES");
        StepRegisters x = seeing(3, 3, 3, 3, 4, 4);
        for (int v = 0; v <= 6; v++) {
            due("weight", x.weight(v, v), 0);
        }
        due("weight(3, 4)", x.weight(3, 4), 1);
        for (int v = 0; v <= 6; v++) {
            due("no STATEMENT", new StepRegisters().weight(v, 6 - v), 0);
            due("not USED", x.weight(3, v == 4 ? 5 : v), 0);
        }
    }

    private static void weightMost() {
        sentence("how often they are beside each other in THE SIGHT, either first");
        StepRegisters x = new StepRegisters();
        for (int s = 0; s < 10; s++) {
            x.put(SUM, s % 2, s % 2, 1 - s % 2);
        }
        due("weight, 30 SEEN", x.weight(0, 1), 29);
        due("weight, 30 SEEN", x.weight(1, 0), 29);
        StepRegisters y = seeing(2, 5, 5, 2);
        due("weight, either first", y.weight(2, 5), 2);
        due("weight, either first", y.weight(5, 2), 2);
    }

    private static void weightBetweenStatements() {
        sentence("beside each other in THE SIGHT: between STATEMENTS, too, and not beyond one between");
        StepRegisters x = seeing(0, 1, 2, 3);
        due("0 1", x.weight(0, 1), 1);
        due("1 2", x.weight(1, 2), 1);
        due("2 3", x.weight(2, 3), 1);
        due("0 2", x.weight(0, 2), 0);
        due("3 0: the last one is not beside the first one", x.weight(3, 0), 0);
        x.drop(0);
        due("dropped", x.weight(1, 2), 0);
        due("dropped", x.weight(2, 3), 1);
    }

    private static void weightNotTurned() {
        sentence("WEIGHT: no STATEMENT being TURNED");
        StepRegisters x = new StepRegisters();
        x.put(SUM, 2, 0, 1);
        x.put(DIFFERENCE, 2, 2, 0);
        due("it is TURNED by THE PLAN", x.plan(1, 1, 2), 1);
        due("hand", x.hand(1), 3);
        due("1 2", x.weight(1, 2), 1);
        due("0 2", x.weight(0, 2), 2);
        due("0 1", x.weight(0, 1), 1);
        x.cross(0);
        due("crossed, 1 2", x.weight(1, 2), 0);
        due("crossed, 0 2", x.weight(0, 2), 3);
    }

    private static void takenNone() {
        sentence("promise 15: of one and the same 0; pairs whose WEIGHT is above 0 are looked at");
        StepRegisters x = seeing(0, 1);
        for (int v = 0; v <= 6; v++) {
            due("taken", x.taken(v, v), 0);
            due("no STATEMENT", new StepRegisters().taken(v, 6 - v), 0);
        }
        due("WEIGHT 0", x.taken(2, 3), 0);
        due("WEIGHT 0", x.taken(1, 2), 0);
        due("WEIGHT 1", x.taken(0, 1), 1);
        due("how many", x.count(4), 1);
        StepRegisters y = seeing(5, 5, 5);
        due("one VARIABLE", y.count(4), 0);
        due("one VARIABLE", y.taken(5, 5), 0);
        sentence("Its COST: 1, if any VARIABLE is USED");
        due("none", new StepRegisters().count(3), 0);
        due("one", y.count(3), 1);
        due("two", x.count(3), 1);
    }

    private static void takenByWeight() {
        sentence("GREEDY: looked at by falling WEIGHTS");
        // 0 1 2 0 2 1 2: 12 of 3, 02 of 2, 01 of 1: were 01 looked at first, 02 would be, too.
        StepRegisters x = seeing(0, 1, 2, 0, 2, 1, 2);
        due("taken(1, 2)", x.taken(1, 2), 1);
        due("taken(0, 2)", x.taken(0, 2), 1);
        due("taken(0, 1)", x.taken(0, 1), 0);
        due("cost", x.count(3), 2);
        due("how many", x.count(4), 2);
        // 0 of 1, 2, 3: 03 of 3, 02 of 2, 01 of 1.
        StepRegisters y = seeing(1, 0, 2, 0, 3, 0, 3);
        due("taken(0, 3)", y.taken(0, 3), 1);
        due("taken(0, 2)", y.taken(0, 2), 1);
        due("taken(0, 1)", y.taken(0, 1), 0);
        due("cost", y.count(3), 2);
    }

    private static void takenByLesser() {
        sentence("of like ones by the lesser VARIABLE of the pair");
        // A ring, 0 6 1 4 5 0: what is looked at last, 45, is left; by greater VARIABLES it would be 16.
        StepRegisters x = seeing(0, 6, 1, 4, 5, 0);
        due("taken(0, 5)", x.taken(0, 5), 1);
        due("taken(0, 6)", x.taken(0, 6), 1);
        due("taken(1, 4)", x.taken(1, 4), 1);
        due("taken(1, 6)", x.taken(1, 6), 1);
        due("taken(4, 5)", x.taken(4, 5), 0);
        due("cost", x.count(3), 2);
        // 3 with 0, 1, 2: 23 is looked at last.
        StepRegisters y = seeing(3, 2, 3, 1, 3, 0, 3);
        due("taken(0, 3)", y.taken(0, 3), 1);
        due("taken(1, 3)", y.taken(1, 3), 1);
        due("taken(2, 3)", y.taken(2, 3), 0);
        due("cost", y.count(3), 3);
    }

    private static void takenByOther() {
        sentence("then by the other one, the lesser first");
        // 0 with 6, 5, 1: 06 is looked at last.
        StepRegisters x = seeing(0, 6, 0, 5, 0, 1, 0);
        due("taken(0, 1)", x.taken(0, 1), 1);
        due("taken(0, 5)", x.taken(0, 5), 1);
        due("taken(0, 6)", x.taken(0, 6), 0);
        // A ring of 4, 5, 6, seen from 6 on: 56 is looked at last.
        StepRegisters y = seeing(6, 5, 4, 6);
        due("taken(4, 5)", y.taken(4, 5), 1);
        due("taken(4, 6)", y.taken(4, 6), 1);
        due("taken(5, 6)", y.taken(5, 6), 0);
    }

    private static void takenTwiceAtMost() {
        sentence("a pair is TAKEN, if neither of both is in two TAKEN pairs yet");
        // 3 with all others, 36 the heaviest, then 35: the other ones are left.
        StepRegisters x = seeing(3, 0, 3, 1, 3, 2, 3, 4, 3, 5, 3, 6, 3, 6, 3, 5, 3, 6);
        int[] want = {0, 0, 0, 0, 0, 1, 1};
        for (int v = 0; v <= 6; v++) {
            due("taken(3, " + v + ")", x.taken(3, v), want[v]);
            due("taken(" + v + ", 3)", x.taken(v, 3), want[v]);
        }
        due("how many", x.count(4), 2);
        sentence("Its COST: .. and the WEIGHTS of all pairs that are not TAKEN");
        due("cost", x.count(3), 1 + 2 + 2 + 2 + 2);
        sentence("in two TAKEN pairs yet: the second one of a pair, too");
        // 6 is the greater one of each pair: 26 of 4, 16 of 3, 56 of 1.
        StepRegisters y = seeing(1, 6, 1, 6, 2, 6, 2, 6, 5);
        due("taken(1, 6)", y.taken(1, 6), 1);
        due("taken(2, 6)", y.taken(2, 6), 1);
        due("taken(5, 6)", y.taken(5, 6), 0);
    }

    private static void takenNoRing() {
        sentence("and TAKEN pairs do not lead from one of them to the other one");
        // Two rows, 0 1 2 and 4 5 6, are joined by 06; 24 would close the ring of all six.
        StepRegisters x = seeing(0, 1, 2, 1, 0, 1, 2, 4, 5, 6, 5, 4, 5, 6, 0);
        due("taken(2, 4)", x.taken(2, 4), 0);
        due("taken(0, 6)", x.taken(0, 6), 1);
        due("taken(0, 1)", x.taken(0, 1), 1);
        due("taken(1, 2)", x.taken(1, 2), 1);
        due("taken(4, 5)", x.taken(4, 5), 1);
        due("taken(5, 6)", x.taken(5, 6), 1);
        due("how many", x.count(4), 5);
        due("cost", x.count(3), 2);
        // Rows 0 1 and 2 3 are TAKEN first, then 03, by which 1 is led to 2.
        StepRegisters y = seeing(0, 1, 0, 1, 2, 3, 2, 3, 0);
        due("taken(0, 3)", y.taken(0, 3), 1);
        due("taken(1, 2)", y.taken(1, 2), 0);
        due("taken(0, 1)", y.taken(0, 1), 1);
        due("taken(2, 3)", y.taken(2, 3), 1);
    }

    private static void takenNoRingOfThree() {
        sentence("TAKEN pairs do not lead from one of them to the other one: rings of three, by every order");
        for (int a = 0; a <= 6; a++) {
            for (int b = 0; b <= 6; b++) {
                for (int c = 0; c <= 6; c++) {
                    if (a != b && b != c && a != c) {
                        // ab of 3, bc of 2, ca of 1.
                        StepRegisters x = seeing(c, a, b, a, b, c, b);
                        due("the heaviest", x.taken(a, b), 1);
                        due("the next one", x.taken(b, c), 1);
                        due("the last one", x.taken(c, a), 0);
                        due("cost", x.count(3), 2);
                    }
                }
            }
        }
    }

    private static void takenNoRingOfFour() {
        sentence("TAKEN pairs do not lead from one of them to the other one: rings of four, by every order");
        for (int a = 0; a <= 6; a++) {
            for (int code = 0; code < 7 * 7 * 7; code++) {
                int b = code % 7;
                int c = code / 7 % 7;
                int d = code / 49;
                if (Integer.bitCount(1 << a | 1 << b | 1 << c | 1 << d) == 4) {
                    // ab of 4, cd of 3, bc of 2, da of 1: two rows that the third pair joins.
                    StepRegisters x = seeing(a, b, a, b, a, d, c, d, c, b, c);
                    due("the heaviest", x.taken(a, b), 1);
                    due("the next one", x.taken(c, d), 1);
                    due("what joins them", x.taken(b, c), 1);
                    due("what would close the ring", x.taken(d, a), 0);
                    due("how many", x.count(4), 3);
                    due("cost", x.count(3), 2);
                    due("bound", x.count(5), 2);
                }
            }
        }
    }

    private static void takenAllSeven() {
        sentence("GREEDY of all 7 VARIABLES");
        StepRegisters x = seeing(6, 5, 4, 3, 2, 1, 0);
        due("a row: how many", x.count(4), 6);
        due("a row: cost", x.count(3), 1);
        StepRegisters y = seeing(6, 5, 4, 3, 2, 1, 0, 6);
        due("a ring: how many", y.count(4), 6);
        due("a ring: cost", y.count(3), 2);
        due("a ring: what is left", y.taken(5, 6), 0);
        due("a ring: what closes it, if looked at last", y.taken(0, 6), 1);
    }

    private static void takenNow() {
        sentence("GREEDY hangs on THE SIGHT alone, as it is now");
        StepRegisters x = seeing(0, 1, 1, 2);
        due("taken", x.taken(1, 2), 1);
        x.free(1, 0);
        due("no distance FREE: taken", x.taken(1, 2), 1);
        due("no distance FREE: cost", x.count(3), 1);
        due("no distance FREE: bound", x.count(5), 1);
        x.drop(1);
        due("dropped", x.taken(1, 2), 0);
        due("dropped", x.count(4), 1);
        x.drop(0);
        due("dropped", x.taken(0, 1), 0);
        due("dropped", x.count(3), 0);
    }

    private static void bound() {
        sentence("BOUND: 1, if n is above 0, and all WEIGHTS but the n less 1 greatest ones");
        due("n is 0", new StepRegisters().count(5), 0);
        due("n is 1", seeing(6, 6).count(5), 1);
        due("n is 2", seeing(0, 6, 0, 6, 0).count(5), 1);
        // 01 of 1, 02 of 2, 12 of 3: the least one is left.
        due("n is 3", seeing(0, 1, 2, 0, 2, 1, 2).count(5), 2);
        due("n is 7, a row", seeing(6, 5, 4, 3, 2, 1, 0).count(5), 1);
        due("n is 7, a ring", seeing(6, 5, 4, 3, 2, 1, 0, 6).count(5), 2);
        // All 10 pairs of 5 VARIABLES, each of 1.
        due("n is 5, all pairs", seeing(0, 1, 2, 3, 4, 0, 2, 4, 1, 3, 0).count(5), 7);
    }

    private static void boundOfStar() {
        sentence("BOUND: the n less 1 greatest ones, of all pairs, whether TAKEN or not");
        StepRegisters x = seeing(3, 0, 3, 1, 3, 2, 3, 4, 3, 5, 3, 6, 3);
        due("bound", x.count(5), 1);
        due("greedy", x.count(3), 9);
        StepRegisters y = seeing(0, 1, 2, 0, 1, 2, 0);
        // 01, 12, 02 of 2 each.
        due("bound, like ones", y.count(5), 3);
    }

    private static void exchangeCells() {
        sentence("promise 16: CELLS of two VARIABLES are exchanged: the CELL that the first one has then");
        StepRegisters x = new StepRegisters();
        for (int v = 0; v <= 6; v++) {
            due("at first VARIABLE i has CELL i", x.count(10 + v), v);
        }
        due("exchange(0, 6)", x.exchange(0, 6), 6);
        due("exchange(6, 3)", x.exchange(6, 3), 3);
        due("exchange(3, 0)", x.exchange(3, 0), 6);
        int[] want = {0, 1, 2, 6, 4, 5, 3};
        for (int v = 0; v <= 6; v++) {
            due("count(1" + v + ")", x.count(10 + v), want[v]);
        }
        sentence("promise 16: (of one and the same: nothing happens)");
        for (int v = 0; v <= 6; v++) {
            due("exchange", x.exchange(v, v), want[v]);
        }
        for (int v = 0; v <= 6; v++) {
            due("count(1" + v + ")", x.count(10 + v), want[v]);
        }
    }

    private static void handNone() {
        sentence("promise 17: OUTSIDE");
        StepRegisters x = seeing(0, 1);
        for (int mode : Answers.beside(0, 1)) {
            due("hand(" + mode + ")", x.hand(mode), OUTSIDE);
            due("no STATEMENT", new StepRegisters().hand(mode), OUTSIDE);
        }
        sentence("The COST by HAND: of no STATEMENT, of one VARIABLE");
        for (int mode = 0; mode <= 1; mode++) {
            due("none", new StepRegisters().hand(mode), 0);
            due("one", seeing(6, 6, 6).hand(mode), 1);
            due("beside", x.hand(mode), 1);
        }
    }

    private static void handDistances() {
        sentence("The COST by HAND: FREE distances of 1 to 6, each of them");
        for (int distance = 1; distance <= 6; distance++) {
            for (int other = 1; other <= 6; other++) {
                StepRegisters x = seeing(0, other, 0);
                x.free(1, 0);
                x.free(distance, 1);
                due("0 " + other + " by " + distance, x.hand(0), other == distance ? 1 : 3);
                StepRegisters y = seeing(6, 6 - other);
                y.free(1, 0);
                y.free(distance, 1);
                due("6 " + (6 - other) + " by " + distance, y.hand(1), other == distance ? 1 : 2);
            }
        }
    }

    private static void handUnused() {
        sentence("if VARIABLES lie in these CELLS (whether USED or not)");
        StepRegisters x = seeing(0, 2);
        due("1 lies between, not USED", x.hand(0), 2);
        due("a PLAN lays them side by side", x.plan(1, 0, 0), 1);
        due("exchange with one that is not USED", x.exchange(2, 1), 1);
        due("hand", x.hand(0), 1);
        due("exchange", x.exchange(0, 6), 6);
        due("hand", x.hand(0), 2);
        due("the PLAN stays", x.place(1, 0, 0, 1), 0);
    }

    private static void handTurned() {
        sentence("none TURNED (MODE 0), or those TURNED by which it is the least (MODE 1)");
        for (int kind = COPY; kind <= LESSER; kind++) {
            StepRegisters x = new StepRegisters();
            // 1 0 2 pays once more; TURNED 0 1 2 does not.
            x.put(kind, 2, 1, 0);
            due("MODE 0, KIND " + kind, x.hand(0), kind == COPY ? 1 : 2);
            due("MODE 1, KIND " + kind, x.hand(1), kind == COPY ? 1 : kind == DIFFERENCE ? 2 : 1);
        }
        // A STATEMENT that would cost more if TURNED is left: 0 1 2 2 1 0, the second one TURNED.
        StepRegisters y = new StepRegisters();
        y.put(SUM, 2, 0, 1);
        y.put(LESSER, 0, 1, 2);
        due("MODE 0", y.hand(0), 2);
        due("MODE 1", y.hand(1), 1);
        // It is by CELLS of HAND, not by those of THE PLAN, that it is the least.
        StepRegisters z = new StepRegisters();
        z.put(SUM, 6, 0, 3);
        due("MODE 1", z.hand(1), 3);
        z.exchange(6, 1);
        // 0 3 6 in CELLS 0 3 1: TURNED 3 0 6 pays once less.
        due("MODE 0", z.hand(0), 3);
        due("MODE 1", z.hand(1), 2);
        due("no more by THE PLAN", z.plan(1, 1, 0), 1);
    }

    private static void handMost() {
        sentence("The COST by HAND of 10 STATEMENTS");
        StepRegisters x = new StepRegisters();
        x.free(1, 0);
        for (int s = 0; s < 10; s++) {
            x.put(SUM, s % 2, s % 2, 1 - s % 2);
        }
        due("none TURNED", x.hand(0), 30);
        due("all TURNED", x.hand(1), 11);
        x.free(1, 1);
        due("FREE", x.hand(0), 1);
        due("FREE", x.hand(1), 1);
        StepRegisters y = new StepRegisters();
        for (int s = 0; s < 10; s++) {
            y.put(SUM, 6, 0, 3);
        }
        due("none TURNED", y.hand(0), 30);
        due("nothing is gained", y.hand(1), 30);
    }

    private static void countWhat() {
        sentence("promise 18: OUTSIDE");
        StepRegisters x = seeing(0, 1, 2);
        for (int what : Answers.beside(0, 16)) {
            due("count(" + what + ")", x.count(what), OUTSIDE);
        }
        for (int what = 7; what <= 9; what++) {
            due("count(" + what + ")", x.count(what), OUTSIDE);
        }
        sentence("promise 18: 0 how many STATEMENTS, 1 how many are SEEN, 2 the set of USED VARIABLES");
        for (int many = 0; many <= 10; many++) {
            StepRegisters y = new StepRegisters();
            for (int s = 0; s < many; s++) {
                y.put(SUM, 6, 6, 0);
            }
            due("count(0)", y.count(0), many);
            due("count(1)", y.count(1), 3 * many);
            due("count(2)", y.count(2), many == 0 ? 0 : 65);
        }
        due("all are USED", seeing(6, 5, 4, 3, 2, 1, 0).count(2), 127);
        sentence("promise 18: 10 and a VARIABLE: its CELL by HAND");
        x.exchange(0, 6);
        due("count(10)", x.count(10), 6);
        due("count(16)", x.count(16), 0);
        sentence("promise 18: 6 which IMAGES are kept, a set");
        due("none", x.count(6), 0);
        x.image(1);
        due("1", x.count(6), 2);
        x.image(0);
        due("both", x.count(6), 3);
        StepRegisters z = new StepRegisters();
        z.image(0);
        due("0", z.count(6), 1);
    }
}
