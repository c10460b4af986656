/** The boundary cases of part 2 of the terms and of promises 10 to 13, sentence by sentence. */
public final class PlanBoundariesTest {
    private static final int COPY = 0, SUM = 1, DIFFERENCE = 2, PRODUCT = 3, LESSER = 4;
    private static final int UNKNOWN = -1, OUTSIDE = -2, NONE = -6;
    private static final Answers ANSWERS = new Answers();

    public static void main(String[] args) {
        noStatement();
        numbersOfPlan();
        numbersOfPlace();
        numbersOfStep();
        numbersOfRun();
        oneVariable();
        allInOneRegister();
        threeRegisters();
        moreRegistersThanVariables();
        cellsOfEachRegister();
        likeCellsAreNeverFar();
        eachDistance();
        farthestDistance();
        distanceFive();
        turnedKinds();
        allTurned();
        turnedNeverOfLikeSides();
        registersDecideFirst();
        registersFirstDifference();
        cellsDecideNext();
        turnsDecideLast();
        turnsFirstDifference();
        stepsByRegister();
        stepsTurned();
        stepEnds();
        runByEachPlan();
        runWholeProgram();
        plansAreMadeAnew();
        ANSWERS.end();
    }

    private static void due(String call, long got, long want) {
        ANSWERS.due(call, got, want);
    }

    private static void sentence(String words) {
        ANSWERS.sentence(words);
    }

    /** So many SUMS of 0 and 1 into 2; with no distance FREE each step to another VARIABLE is paid for. */
    private static StepRegisters sumsOfThree(int many) {
        StepRegisters x = new StepRegisters();
        x.free(1, 0);
        for (int s = 0; s < many; s++) {
            x.put(SUM, 2, 0, 1);
        }
        return x;
    }

    /** 0 2 1 3, four times over. */
    private static StepRegisters twoRows() {
        StepRegisters x = new StepRegisters();
        for (int s = 0; s < 4; s++) {
            x.put(COPY, 2, 0, 0);
            x.put(COPY, 3, 1, 0);
        }
        return x;
    }

    private static void places(StepRegisters x, int r, int mode, int[] registers, int[] cells) {
        for (int v = 0; v < registers.length; v++) {
            String call = "place(" + r + ", " + mode + ", " + v + ", ";
            due(call + "0)", x.place(r, mode, v, 0), registers[v]);
            due(call + "1)", x.place(r, mode, v, 1), cells[v]);
        }
    }

    private static void noStatement() {
        sentence("A PLAN of no STATEMENT: no VARIABLE is USED, nothing is paid");
        for (int r = 1; r <= 3; r++) {
            for (int mode = 0; mode <= 1; mode++) {
                StepRegisters x = new StepRegisters();
                for (int what = 0; what <= 2; what++) {
                    due("plan", x.plan(r, mode, what), 0);
                    due("step", x.step(r, mode, 0, what), NONE);
                    due("step", x.step(r, mode, -1, what), NONE);
                }
                for (int v = 0; v <= 6; v++) {
                    due("place", x.place(r, mode, v, 0), UNKNOWN);
                    due("place", x.place(r, mode, v, 1), UNKNOWN);
                }
                x.set(4, 9);
                due("run", x.run(r, mode), 0);
                due("value", x.value(4), 9);
                x.put(SUM, 0, 1, 2);
                x.plan(r, mode, 0);
                x.drop(0);
                due("plan, none again", x.plan(r, mode, 0), 0);
                due("plan, none again", x.plan(r, mode, 1), 0);
                due("plan, none again", x.plan(r, mode, 2), 0);
            }
        }
    }

    private static void numbersOfPlan() {
        sentence("promise 10: OUTSIDE: R, the MODE, what; REGISTERS (1 to 3), MODE (0, 1)");
        StepRegisters x = sumsOfThree(2);
        for (int r : Answers.beside(1, 3)) {
            due("plan(" + r + ", 0, 0)", x.plan(r, 0, 0), OUTSIDE);
            due("plan(" + r + ", 2, 3)", x.plan(r, 2, 3), OUTSIDE);
        }
        for (int mode : Answers.beside(0, 1)) {
            due("plan(1, " + mode + ", 0)", x.plan(1, mode, 0), OUTSIDE);
            due("plan(3, " + mode + ", 2)", x.plan(3, mode, 2), OUTSIDE);
        }
        for (int what : Answers.beside(0, 2)) {
            due("plan(1, 0, " + what + ")", x.plan(1, 0, what), OUTSIDE);
            due("plan(3, 1, " + what + ")", x.plan(3, 1, what), OUTSIDE);
        }
        due("plan, all least", x.plan(1, 0, 0), 6);
        due("plan, all greatest", x.plan(3, 1, 2), 0);
    }

    private static void numbersOfPlace() {
        sentence("promise 11: OUTSIDE: R, the MODE, what");
        StepRegisters x = sumsOfThree(2);
        for (int r : Answers.beside(1, 3)) {
            due("place(" + r + ", 0, 0, 0)", x.place(r, 0, 0, 0), OUTSIDE);
        }
        for (int mode : Answers.beside(0, 1)) {
            due("place(1, " + mode + ", 0, 0)", x.place(1, mode, 0, 0), OUTSIDE);
        }
        for (int what : Answers.beside(0, 1)) {
            due("place(1, 0, 0, " + what + ")", x.place(1, 0, 0, what), OUTSIDE);
        }
        sentence("promise 11: UNKNOWN: no VARIABLE, or not USED");
        for (int v : Answers.beside(0, 6)) {
            due("place(1, 0, " + v + ", 0)", x.place(1, 0, v, 0), UNKNOWN);
        }
        for (int v = 3; v <= 6; v++) {
            due("place(3, 1, " + v + ", 0)", x.place(3, 1, v, 0), UNKNOWN);
            due("place(3, 1, " + v + ", 1)", x.place(3, 1, v, 1), UNKNOWN);
        }
        sentence("Calls that are refused answer the first that fits: UNKNOWN, OUTSIDE");
        for (int v : new int[] {-1, 3, 6, 7}) {
            due("place, and R", x.place(0, 0, v, 0), UNKNOWN);
            due("place, and R", x.place(4, 0, v, 0), UNKNOWN);
            due("place, and the MODE", x.place(1, 2, v, 0), UNKNOWN);
            due("place, and what", x.place(1, 0, v, 2), UNKNOWN);
            due("place, and all", x.place(-1, -1, v, -1), UNKNOWN);
        }
    }

    private static void numbersOfStep() {
        sentence("promise 12: OUTSIDE: R, the MODE, what");
        StepRegisters x = sumsOfThree(2);
        for (int r : Answers.beside(1, 3)) {
            due("step(" + r + ", 0, 0, 0)", x.step(r, 0, 0, 0), OUTSIDE);
            due("step(" + r + ", 0, 6, 0)", x.step(r, 0, 6, 0), OUTSIDE);
        }
        for (int mode : Answers.beside(0, 1)) {
            due("step(1, " + mode + ", 0, 0)", x.step(1, mode, 0, 0), OUTSIDE);
            due("step(1, " + mode + ", -1, 0)", x.step(1, mode, -1, 0), OUTSIDE);
        }
        for (int what : Answers.beside(0, 2)) {
            due("step(1, 0, 0, " + what + ")", x.step(1, 0, 0, what), OUTSIDE);
            due("step(1, 0, 6, " + what + ")", x.step(1, 0, 6, what), OUTSIDE);
            due("step of none", new StepRegisters().step(1, 0, 0, what), OUTSIDE);
        }
    }

    private static void numbersOfRun() {
        sentence("promise 13: OUTSIDE: R, the MODE");
        StepRegisters x = sumsOfThree(1);
        x.set(0, 5);
        for (int r : Answers.beside(1, 3)) {
            due("run(" + r + ", 0)", x.run(r, 0), OUTSIDE);
            due("run(" + r + ", 2)", x.run(r, 2), OUTSIDE);
        }
        for (int mode : Answers.beside(0, 1)) {
            due("run(1, " + mode + ")", x.run(1, mode), OUTSIDE);
            due("run(3, " + mode + ")", x.run(3, mode), OUTSIDE);
        }
        due("nothing was done", x.value(2), 0);
        due("run(3, 1)", x.run(3, 1), 3);
        due("it was done", x.value(2), 5);
    }

    private static void oneVariable() {
        sentence("COST: 1 for the first one; of one VARIABLE, 30 times SEEN, no more is paid");
        for (int v = 0; v <= 6; v++) {
            StepRegisters x = new StepRegisters();
            x.free(1, 0);
            for (int s = 0; s < 10; s++) {
                x.put(SUM, v, v, v);
            }
            for (int r = 1; r <= 3; r++) {
                due("plan", x.plan(r, 1, 0), 1);
                due("plan", x.plan(r, 1, 1), 1);
                due("plan", x.plan(r, 1, 2), 0);
                due("place", x.place(r, 1, v, 0), 0);
                due("place", x.place(r, 1, v, 1), 0);
                due("step", x.step(r, 1, 0, 1), 1);
                due("step", x.step(r, 1, 29, 0), v);
                due("step", x.step(r, 1, 29, 1), 0);
                due("step", x.step(r, 1, 29, 2), 0);
            }
        }
    }

    /** 0 1 2 3 4 5 6 6, or from 6 to 0. */
    private static StepRegisters oneRow(boolean falling) {
        StepRegisters x = new StepRegisters();
        if (falling) {
            x.put(DIFFERENCE, 4, 6, 5);
            x.put(DIFFERENCE, 1, 3, 2);
            x.put(COPY, 0, 0, 0);
        } else {
            x.put(DIFFERENCE, 2, 0, 1);
            x.put(DIFFERENCE, 5, 3, 4);
            x.put(COPY, 6, 6, 6);
        }
        return x;
    }

    private static void allInOneRegister() {
        sentence("VARIABLES of one REGISTER lie in CELLS 0 to one less than how many they are: all 7 of them");
        int[] rising = {0, 1, 2, 3, 4, 5, 6};
        for (int r = 1; r <= 3; r++) {
            for (int mode = 0; mode <= 1; mode++) {
                StepRegisters x = oneRow(false);
                StepRegisters y = oneRow(true);
                due("plan", x.plan(r, mode, 0), 1);
                due("plan", x.plan(r, mode, 1), 1);
                due("plan, falling", y.plan(r, mode, 0), 1);
                places(x, r, mode, new int[7], rising);
                places(y, r, mode, new int[7], rising);
                for (int i = 1; i <= 6; i++) {
                    due("step up", x.step(r, mode, i, 2), 1);
                    due("step down", y.step(r, mode, i, 2), -1);
                    due("LOAD", x.step(r, mode, i, 1), 0);
                }
                due("no step", x.step(r, mode, 7, 2), 0);
            }
        }
    }

    private static void threeRegisters() {
        sentence("its REGISTER, 0 to R less 1; COST: for each REGISTER that has any VARIABLE .. all added");
        StepRegisters x = sumsOfThree(10);
        due("by one", x.plan(1, 0, 0), 30);
        due("by two", x.plan(2, 0, 0), 21);
        due("by three", x.plan(3, 0, 0), 3);
        for (int r = 1; r <= 3; r++) {
            due("how many REGISTERS", x.plan(r, 0, 1), r);
        }
        places(x, 1, 0, new int[] {0, 0, 0}, new int[] {0, 1, 2});
        places(x, 2, 0, new int[] {0, 0, 1}, new int[] {0, 1, 0});
        places(x, 3, 0, new int[] {0, 1, 2}, new int[] {0, 0, 0});
    }

    private static void moreRegistersThanVariables() {
        sentence("for each REGISTER that has any VARIABLE: one that has none costs nothing");
        StepRegisters x = new StepRegisters();
        x.free(1, 0);
        x.put(SUM, 0, 0, 6);
        // 0 6 0: by one 3, by two 1 and 1; the third one stays empty.
        due("by one", x.plan(1, 0, 0), 3);
        due("by two", x.plan(2, 0, 0), 2);
        due("by three", x.plan(3, 0, 0), 2);
        due("how many REGISTERS", x.plan(3, 0, 1), 2);
        due("place", x.place(3, 0, 0, 0), 0);
        due("place", x.place(3, 0, 6, 0), 1);
    }

    private static void cellsOfEachRegister() {
        sentence("VARIABLES of one REGISTER lie in CELLS 0 to one less than how many they are, each in its own");
        StepRegisters x = new StepRegisters();
        for (int s = 0; s < 10; s++) {
            x.put(DIFFERENCE, (5 * s + 3) % 7, s * s % 7, (3 * s + 1) % 7);
        }
        for (int r = 1; r <= 3; r++) {
            for (int mode = 0; mode <= 1; mode++) {
                int[] taken = new int[4];
                int[] many = new int[4];
                for (int v = 0; v <= 6; v++) {
                    int register = x.place(r, mode, v, 0);
                    due("REGISTER below R", register >= 0 && register < r ? 1 : 0, 1);
                    taken[register & 3] |= 1 << x.place(r, mode, v, 1);
                    many[register & 3]++;
                }
                for (int g = 0; g < 4; g++) {
                    due("CELLS of REGISTER " + g, taken[g], (1 << many[g]) - 1);
                }
            }
        }
    }

    private static void likeCellsAreNeverFar() {
        sentence("Two CELLS are FAR, if their numbers are unlike, and by how much is not FREE");
        StepRegisters x = new StepRegisters();
        x.free(1, 0);
        x.put(SUM, 3, 3, 3);
        x.put(COPY, 4, 3, 0);
        x.put(COPY, 4, 4, 0);
        // 3 3 3 3 4 4 4
        due("plan", x.plan(1, 0, 0), 2);
        for (int i = 0; i < 7; i++) {
            due("LOAD at " + i, x.step(1, 0, i, 1), i == 0 || i == 4 ? 1 : 0);
        }
        x.free(1, 1);
        due("plan", x.plan(1, 0, 0), 1);
        due("LOAD", x.step(1, 0, 4, 1), 0);
        due("step", x.step(1, 0, 4, 2), 1);
    }

    private static void eachDistance() {
        sentence("FREE distances: of 1 to 6, each of them alone");
        for (int distance = 1; distance <= 6; distance++) {
            StepRegisters x = new StepRegisters();
            x.free(1, 0);
            x.free(distance, 1);
            // As many VARIABLES as make that distance fit, of which 0 and 1 go to and fro.
            for (int s = 0; s < 4; s++) {
                x.put(SUM, 0, 0, 1);
            }
            for (int v = 2; v <= distance; v++) {
                x.put(COPY, v, v, 0);
            }
            // 0 1 0 0 1 0 0 1 0 0 1 0, then each one more pays, being far but for what fits beside 0 and 1.
            due("place", x.place(1, 0, 0, 1), 0);
            due("place", x.place(1, 0, 1, 1), distance);
            due("step", x.step(1, 0, 1, 2), distance);
            due("step back", x.step(1, 0, 2, 2), -distance);
            if (distance > 1) {
                x.drop(x.count(0) - 1);
                due("one VARIABLE less: it does not fit", x.step(1, 0, 1, 1), 1);
            }
        }
    }

    /** 0 1 five times over, 3 4 2, 5 6; no distance FREE but one. */
    private static StepRegisters pairAndRest(int distance) {
        StepRegisters x = new StepRegisters();
        x.free(1, 0);
        x.free(distance, 1);
        for (int s = 0; s < 5; s++) {
            x.put(COPY, 1, 0, 0);
        }
        x.put(SUM, 2, 3, 4);
        x.put(COPY, 6, 5, 0);
        return x;
    }

    private static void farthestDistance() {
        sentence("CELLS 0 and 6, the distance 6 being FREE");
        StepRegisters x = pairAndRest(6);
        // 14 steps to another VARIABLE, 9 of them between 0 and 1.
        due("plan", x.plan(1, 0, 0), 6);
        places(x, 1, 0, new int[7], new int[] {0, 6, 1, 2, 3, 4, 5});
        due("step", x.step(1, 0, 1, 2), 6);
        due("step", x.step(1, 0, 2, 2), -6);
    }

    private static void distanceFive() {
        sentence("of as little COST by CELLS, the first at which two PLANS differ deciding");
        StepRegisters x = pairAndRest(5);
        // Beside 0 and 1 in cells 0 and 5 one pair more fits, in 1 and 6: 2 and 5 leave 3, 4 the least.
        due("plan", x.plan(1, 0, 0), 5);
        places(x, 1, 0, new int[7], new int[] {0, 5, 1, 2, 3, 6, 4});
    }

    private static void turnedKinds() {
        sentence("A SUM, a PRODUCT, a LESSER can be TURNED (others not)");
        for (int kind = SUM; kind <= LESSER; kind++) {
            StepRegisters x = new StepRegisters();
            x.put(kind, 2, 0, 1);
            x.put(DIFFERENCE, 2, 2, 0);
            // 0 1 2 2 0 2 pays twice; 1 0 2 2 0 2 once.
            boolean able = kind != DIFFERENCE;
            due("MODE 0, KIND " + kind, x.plan(1, 0, 0), 2);
            due("MODE 0, KIND " + kind, x.plan(1, 0, 2), 0);
            due("MODE 1, KIND " + kind, x.plan(1, 1, 0), able ? 1 : 2);
            due("MODE 1, KIND " + kind, x.plan(1, 1, 2), able ? 1 : 0);
        }
        // 0 1 2 0 pays twice; were the second COPY seen from its TARGET on, 0 1 0 2 would pay once.
        StepRegisters y = new StepRegisters();
        y.put(COPY, 1, 0, 0);
        y.put(COPY, 0, 2, 1);
        due("COPY", y.plan(1, 1, 0), 2);
        due("COPY", y.plan(1, 1, 2), 0);
    }

    private static void allTurned() {
        sentence("of MODE 0 none, of MODE 1 any that can be: all 10 of them");
        int[] kinds = {SUM, PRODUCT, LESSER};
        StepRegisters x = new StepRegisters();
        for (int s = 0; s < 10; s++) {
            boolean even = s % 2 == 0;
            x.put(kinds[s % 3], even ? 2 : 0, 1, even ? 0 : 2);
        }
        // TURNED, 0 1 2 2 1 0 0 1 2 ..; each one that is not has 0 and 2 beside each other.
        for (int r = 1; r <= 3; r++) {
            due("MODE 1", x.plan(r, 1, 0), 1);
            due("MODE 1", x.plan(r, 1, 2), 1023);
            due("MODE 0", x.plan(r, 0, 2), 0);
            places(x, r, 1, new int[3], new int[] {0, 1, 2});
        }
        due("the last one SEEN", x.step(1, 1, 29, 0), 0);
        due("the one before", x.step(1, 1, 28, 0), 1);
        due("the first of the last STATEMENT", x.step(1, 1, 27, 0), 2);
        due("the same, MODE 0", x.step(1, 0, 27, 0), 1);
        sentence("of MODE 1 any that can be: no distance FREE");
        StepRegisters y = new StepRegisters();
        y.free(1, 0);
        for (int s = 0; s < 10; s++) {
            y.put(SUM, s % 2, s % 2, 1 - s % 2);
        }
        // 0 1 0 1 0 1 ..: TURNED, 1 0 0 0 1 1 1 0 0 ..
        due("MODE 0", y.plan(1, 0, 0), 30);
        due("MODE 1", y.plan(1, 1, 0), 11);
        due("MODE 1", y.plan(1, 1, 2), 1023);
    }

    private static void turnedNeverOfLikeSides() {
        sentence("any that can be and whose LEFT and RIGHT are unlike");
        StepRegisters x = new StepRegisters();
        x.free(1, 0);
        for (int s = 0; s < 10; s++) {
            x.put(SUM, s % 7, (s + 1) % 7, (s + 1) % 7);
        }
        for (int r = 1; r <= 3; r++) {
            due("plan", x.plan(r, 1, 2), 0);
            due("plan", x.plan(r, 1, 0), x.plan(r, 0, 0));
        }
    }

    private static void registersDecideFirst() {
        sentence("of as little COST that whose REGISTERS, of USED VARIABLES as they rise, are the least");
        // 4 6 with no distance FREE: one REGISTER pays 2, and so do two of them.
        StepRegisters x = new StepRegisters();
        x.free(1, 0);
        x.put(COPY, 4, 6, 0);
        for (int r = 2; r <= 3; r++) {
            due("plan", x.plan(r, 0, 0), 2);
            due("plan", x.plan(r, 0, 1), 1);
            due("place", x.place(r, 0, 4, 0), 0);
            due("place", x.place(r, 0, 6, 0), 0);
        }
        sentence("REGISTERS decide ahead of CELLS");
        due("place", x.place(3, 0, 4, 1), 0);
        due("place", x.place(3, 0, 6, 1), 1);
        sentence("REGISTERS decide ahead of TURNED ones");
        // 1 0 1: two REGISTERS pay 2; so does one, if it is TURNED, 0 1 1.
        StepRegisters y = new StepRegisters();
        y.free(1, 0);
        y.put(SUM, 1, 1, 0);
        due("MODE 0", y.plan(2, 0, 0), 2);
        due("MODE 0", y.plan(2, 0, 1), 2);
        due("MODE 1", y.plan(2, 1, 0), 2);
        due("MODE 1", y.plan(2, 1, 1), 1);
        due("MODE 1", y.plan(2, 1, 2), 1);
    }

    private static void registersFirstDifference() {
        sentence("REGISTERS: the first at which two PLANS differ deciding");
        StepRegisters x = sumsOfThree(2);
        // 0 1 2 0 1 2 by two REGISTERS: any one alone, 1 + 4: 0 and 1 together are the least.
        due("plan", x.plan(2, 0, 0), 5);
        places(x, 2, 0, new int[] {0, 0, 1}, new int[] {0, 1, 0});
        // 2 0 1 2 2 0 1 2: 2 is SEEN first, but it is the greatest one, so its REGISTER is the second one.
        StepRegisters y = new StepRegisters();
        y.free(1, 0);
        y.put(COPY, 0, 2, 0);
        y.put(COPY, 2, 1, 0);
        y.put(COPY, 0, 2, 0);
        y.put(COPY, 2, 1, 0);
        due("plan", y.plan(2, 0, 0), 5);
        places(y, 2, 0, new int[] {0, 0, 1}, new int[] {0, 1, 0});
        // 0 1 0 2 0 1 0 2 0 0: 0 is the one to be alone, so 1 and 2 are of the second one.
        StepRegisters z = new StepRegisters();
        z.free(1, 0);
        for (int s = 0; s < 2; s++) {
            z.put(COPY, 1, 0, 0);
            z.put(COPY, 2, 0, 0);
        }
        z.put(COPY, 0, 0, 0);
        due("plan", z.plan(2, 0, 0), 5);
        places(z, 2, 0, new int[] {0, 1, 1}, new int[] {0, 0, 1});
    }

    private static void cellsDecideNext() {
        sentence("then likewise by their CELLS");
        // 6 5 4 in a row: of 0 1 2 and 2 1 0 that by which 4 lies in 0.
        StepRegisters x = new StepRegisters();
        x.put(DIFFERENCE, 4, 6, 5);
        due("place", x.place(1, 0, 4, 1), 0);
        due("place", x.place(1, 0, 5, 1), 1);
        due("place", x.place(1, 0, 6, 1), 2);
        // All distances FREE: every PLAN costs 1, so VARIABLES lie as they rise.
        StepRegisters y = oneRow(true);
        for (int distance = 2; distance <= 6; distance++) {
            y.free(distance, 1);
        }
        y.put(SUM, 0, 6, 3);
        y.put(SUM, 5, 1, 4);
        due("plan", y.plan(3, 1, 0), 1);
        due("plan", y.plan(3, 1, 2), 0);
        places(y, 3, 1, new int[7], new int[] {0, 1, 2, 3, 4, 5, 6});
        // No distance FREE and one REGISTER: CELLS are no matter, so VARIABLES lie as they rise.
        StepRegisters z = oneRow(true);
        z.free(1, 0);
        due("plan", z.plan(1, 0, 0), 7);
        places(z, 1, 0, new int[7], new int[] {0, 1, 2, 3, 4, 5, 6});
    }

    private static void turnsDecideLast() {
        sentence("then by STATEMENTS: CELLS decide ahead of TURNED ones");
        // 1 2 0: as cheap if TURNED, 2 1 0, by which CELLS are 0, 1, 2, and not 0, 2, 1.
        StepRegisters x = new StepRegisters();
        x.put(SUM, 0, 1, 2);
        due("MODE 0", x.plan(1, 0, 0), 1);
        places(x, 1, 0, new int[3], new int[] {0, 2, 1});
        due("MODE 1", x.plan(1, 1, 2), 1);
        places(x, 1, 1, new int[3], new int[] {0, 1, 2});
        sentence("one that is not TURNED being less than one that is");
        // 0 1 1 and 1 0 1 are as cheap in the same CELLS.
        StepRegisters y = new StepRegisters();
        y.put(SUM, 1, 0, 1);
        due("plan", y.plan(1, 1, 2), 0);
        // LEFT and RIGHT of unlike REGISTERS: nothing hangs on which is seen first.
        StepRegisters z = sumsOfThree(10);
        due("plan", z.plan(3, 1, 2), 0);
    }

    private static void turnsFirstDifference() {
        sentence("by STATEMENTS as they rise: the first at which two PLANS differ decides, not the set as a number");
        StepRegisters x = sumsOfThree(2);
        // {0, 1} and {2}: 0 1 1 0 and 1 0 0 1 pay one less than 0 1 0 1: the second one is TURNED, not the first.
        due("plan", x.plan(2, 1, 0), 4);
        due("plan", x.plan(2, 1, 2), 2);
        StepRegisters y = sumsOfThree(10);
        due("plan", y.plan(2, 1, 0), 12);
        due("plan", y.plan(2, 1, 2), 682);
        due("plan", y.plan(1, 1, 0), 30);
        due("plan", y.plan(1, 1, 2), 0);
        sentence("by STATEMENTS as they rise: a later one is seen behind those that are TURNED ahead of it");
        StepRegisters z = new StepRegisters();
        z.free(1, 0);
        z.put(LESSER, 1, 1, 2);
        z.put(SUM, 0, 2, 1);
        // 1 2 1 2 1 0 pays 6; either one TURNED 5; both, 2 1 1 1 2 0, 4.
        due("plan", z.plan(1, 0, 0), 6);
        due("plan", z.plan(1, 1, 0), 4);
        due("plan", z.plan(1, 1, 2), 3);
    }

    private static void stepsByRegister() {
        sentence("promise 12: by how much its CELL is greater than that of the one before of its REGISTER");
        StepRegisters x = twoRows();
        due("plan", x.plan(2, 0, 0), 2);
        places(x, 2, 0, new int[] {0, 0, 1, 1}, new int[] {0, 1, 0, 1});
        int[] row = {0, 2, 1, 3};
        for (int i = 0; i < 16; i++) {
            due("VARIABLE " + i, x.step(2, 0, i, 0), row[i % 4]);
            due("LOAD " + i, x.step(2, 0, i, 1), i < 2 ? 1 : 0);
            due("step " + i, x.step(2, 0, i, 2), i < 2 ? 0 : i % 4 < 2 ? -1 : 1);
        }
        sentence("promise 12: with a LOAD: 0");
        StepRegisters y = sumsOfThree(3);
        for (int i = 0; i < 9; i++) {
            due("LOAD " + i, y.step(1, 0, i, 1), 1);
            due("step " + i, y.step(1, 0, i, 2), 0);
        }
    }

    private static void stepsTurned() {
        sentence("promise 12: The i-th one that is SEEN in THE SIGHT by THE PLAN");
        StepRegisters x = new StepRegisters();
        x.put(SUM, 2, 0, 1);
        x.put(DIFFERENCE, 2, 2, 0);
        int[] asItIs = {0, 1, 2, 2, 0, 2};
        int[] turned = {1, 0, 2, 2, 0, 2};
        for (int i = 0; i < 6; i++) {
            due("MODE 0", x.step(1, 0, i, 0), asItIs[i]);
            due("MODE 1", x.step(1, 1, i, 0), turned[i]);
            due("LOAD, MODE 1", x.step(1, 1, i, 1), i == 0 ? 1 : 0);
            due("sight stays", x.sight(i), asItIs[i]);
        }
        // By MODE 1: CELLS 1, 0, 2 of 0, 1, 2.
        int[] by = {0, 1, 1, 0, -1, 1};
        for (int i = 0; i < 6; i++) {
            due("step", x.step(1, 1, i, 2), by[i]);
        }
    }

    private static void stepEnds() {
        sentence("promise 12: from 0 on; NONE: there is none such (i below 0, too)");
        for (int many = 1; many <= 10; many += 3) {
            StepRegisters x = sumsOfThree(many);
            for (int what = 0; what <= 2; what++) {
                for (int i : Answers.beside(0, 3 * many - 1)) {
                    due("step(1, 1, " + i + ", " + what + ")", x.step(1, 1, i, what), NONE);
                }
            }
            due("the first", x.step(3, 0, 0, 0), 0);
            due("the last", x.step(3, 0, 3 * many - 1, 0), 2);
        }
    }

    private static void runByEachPlan() {
        sentence("promise 13: how many LOADS there were; VALUES are the same by every PLAN");
        for (int r = 1; r <= 3; r++) {
            for (int mode = 0; mode <= 1; mode++) {
                StepRegisters x = new StepRegisters();
                x.set(0, 100);
                x.set(1, 7);
                x.put(SUM, 2, 0, 1);
                x.put(DIFFERENCE, 2, 2, 0);
                x.put(PRODUCT, 3, 2, 0);
                x.put(LESSER, 4, 3, 1);
                x.put(COPY, 5, 3, 0);
                x.put(DIFFERENCE, 1, 1, 0);
                int loads = 0;
                for (int i = 0; i < 17; i++) {
                    loads += x.step(r, mode, i, 1);
                }
                due("all SEEN", x.count(1), 17);
                due("COST", x.plan(r, mode, 0), loads);
                due("run", x.run(r, mode), loads);
                int[] want = {100, -93, 7, 700, 7, 700, 0};
                for (int v = 0; v <= 6; v++) {
                    due("value(" + v + ")", x.value(v), want[v]);
                }
            }
        }
    }

    private static void runWholeProgram() {
        sentence("promise 13: THE PROGRAM is done once, STATEMENT by STATEMENT: all 10 of them");
        StepRegisters x = new StepRegisters();
        x.set(0, 3);
        for (int s = 0; s < 10; s++) {
            x.put(SUM, 0, 0, 0);
        }
        due("run", x.run(1, 0), 1);
        due("value", x.value(0), 3 * 1024);
        due("run", x.run(3, 1), 1);
        due("value", x.value(0), 3 * 1024 * 1024);
        x.run(2, 0);
        due("wrapped", x.value(0), -1073741824);
        due("count", x.count(0), 10);
        // Each goes on with what the one before has made: 1 1 2 3 5 8 ..
        StepRegisters y = new StepRegisters();
        y.set(1, 1);
        for (int s = 0; s < 10; s++) {
            y.put(SUM, s % 2, 0, 1);
        }
        y.run(2, 1);
        due("value", y.value(0), 55);
        due("value", y.value(1), 89);
    }

    private static void plansAreMadeAnew() {
        sentence("THE PLAN is that of THE PROGRAM and FREE distances as they are now");
        StepRegisters x = new StepRegisters();
        x.put(DIFFERENCE, 2, 0, 1);
        due("one", x.plan(1, 0, 0), 1);
        x.put(COPY, 0, 2, 0);
        due("put", x.plan(1, 0, 0), 2);
        x.free(2, 1);
        due("free", x.plan(1, 0, 0), 1);
        x.free(2, 0);
        due("not free", x.plan(1, 0, 0), 2);
        x.image(0);
        x.drop(1);
        due("drop", x.plan(1, 0, 0), 1);
        x.restore(0);
        due("restore", x.plan(1, 0, 0), 2);
        x.drop(1);
        due("1 lies between 0 and 2", x.place(1, 0, 1, 1), 1);
        x.cross(0);
        due("cross: 0 does", x.place(1, 0, 0, 1), 1);
        x.exchange(0, 5);
        x.set(1, 8);
        x.run(1, 0);
        due("what is by HAND and VALUES are no matter", x.place(1, 0, 0, 1), 1);
        sentence("PLANS for each R and MODE are told apart");
        StepRegisters y = sumsOfThree(10);
        int[][] costs = {{30, 30}, {21, 12}, {3, 3}};
        for (int again = 0; again < 2; again++) {
            for (int r = 3; r >= 1; r--) {
                for (int mode = 1; mode >= 0; mode--) {
                    due("plan(" + r + ", " + mode + ", 0)", y.plan(r, mode, 0), costs[r - 1][mode]);
                }
            }
        }
    }
}
