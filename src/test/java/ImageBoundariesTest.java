/** The boundary cases of promises 19 and 20, sentence by sentence. */
public final class ImageBoundariesTest {
    private static final int COPY = 0, SUM = 1, DIFFERENCE = 2, PRODUCT = 3;
    private static final int UNKNOWN = -1, OUTSIDE = -2, STATE = -3, FULL = -4, NONE = -6;
    private static final Answers ANSWERS = new Answers();

    public static void main(String[] args) {
        numbers();
        nothingKept();
        keptEmpty();
        keptFull();
        programComesBack();
        freeComesBack();
        valuesComeBack();
        handComesBack();
        imageStays();
        imagesApart();
        inPlace();
        keptSetStays();
        ANSWERS.end();
    }

    private static void due(String call, long got, long want) {
        ANSWERS.due(call, got, want);
    }

    private static void sentence(String words) {
        ANSWERS.sentence(words);
    }

    private static void numbers() {
        sentence("promises 19 and 20: an IMAGE (0, 1); OUTSIDE");
        StepRegisters x = new StepRegisters();
        for (int k : Answers.beside(0, 1)) {
            due("image(" + k + ")", x.image(k), OUTSIDE);
            due("restore(" + k + ")", x.restore(k), OUTSIDE);
        }
        due("count", x.count(6), 0);
        due("image(0)", x.image(0), 1);
        due("image(1)", x.image(1), 1);
        for (int k : Answers.beside(0, 1)) {
            due("image(" + k + "), both kept", x.image(k), OUTSIDE);
            due("restore(" + k + "), both kept", x.restore(k), OUTSIDE);
        }
        due("count", x.count(6), 3);
        due("restore(0)", x.restore(0), 1);
        due("restore(1)", x.restore(1), 1);
    }

    private static void nothingKept() {
        sentence("promise 20: STATE: nothing was kept in it");
        for (int k = 0; k <= 1; k++) {
            StepRegisters x = new StepRegisters();
            x.put(SUM, 0, 1, 2);
            due("restore", x.restore(k), STATE);
            due("image, the other one", x.image(1 - k), 1);
            due("restore", x.restore(k), STATE);
            due("restore, the other one", x.restore(1 - k), 1);
            due("restore", x.restore(k), STATE);
            due("count", x.count(0), 1);
            due("image", x.image(k), 1);
            due("restore", x.restore(k), 1);
        }
    }

    private static void keptEmpty() {
        sentence("They are as they were: no STATEMENT, all VALUES 0");
        StepRegisters x = new StepRegisters();
        x.image(1);
        for (int s = 0; s < 10; s++) {
            x.put(SUM, s % 7, (s + 1) % 7, (s + 2) % 7);
            x.set(s % 7, s + 1);
        }
        x.free(1, 0);
        x.free(6, 1);
        x.exchange(0, 3);
        x.plan(3, 1, 0);
        due("restore", x.restore(1), 1);
        for (int what = 0; what <= 5; what++) {
            due("count(" + what + ")", x.count(what), 0);
        }
        for (int v = 0; v <= 6; v++) {
            due("value", x.value(v), 0);
            due("CELL by HAND", x.count(10 + v), v);
        }
        due("told", x.told(0, 0), UNKNOWN);
        due("sight", x.sight(0), NONE);
        due("plan", x.plan(3, 1, 0), 0);
        due("free", x.free(1, 1), 2);
        due("put, from 0 on", x.put(COPY, 1, 0, 0), 0);
    }

    private static void keptFull() {
        sentence("They are as they were: 10 STATEMENTS");
        StepRegisters x = new StepRegisters();
        for (int s = 0; s < 10; s++) {
            x.put(s % 5, s % 7, (s + 1) % 7, (s + 2) % 7);
        }
        x.image(0);
        for (int s = 0; s < 10; s++) {
            x.drop(0);
        }
        x.put(SUM, 6, 6, 6);
        due("restore", x.restore(0), 1);
        for (int s = 0; s < 10; s++) {
            due("KIND", x.told(s, 0), s % 5);
            due("TARGET", x.told(s, 1), s % 7);
            due("LEFT", x.told(s, 2), (s + 1) % 7);
            due("RIGHT", x.told(s, 3), s % 5 == COPY ? NONE : (s + 2) % 7);
        }
        due("put, one more", x.put(SUM, 0, 0, 0), FULL);
        due("told", x.told(10, 0), UNKNOWN);
    }

    private static void programComesBack() {
        sentence("THE PROGRAM is kept: what was put, dropped and crossed later is as it was");
        StepRegisters x = new StepRegisters();
        x.put(DIFFERENCE, 2, 0, 1);
        x.put(PRODUCT, 4, 2, 3);
        x.image(0);
        x.put(COPY, 6, 5, 0);
        x.restore(0);
        due("put", x.count(0), 2);
        x.drop(0);
        x.restore(0);
        due("dropped", x.told(0, 0), DIFFERENCE);
        due("dropped", x.told(1, 0), PRODUCT);
        x.cross(0);
        due("crossed", x.told(0, 2), 1);
        x.restore(0);
        due("crossed", x.told(0, 2), 0);
        due("crossed", x.told(0, 3), 1);
        due("the SIGHT", x.sight(0), 0);
        due("the SIGHT", x.count(1), 6);
        due("weight", x.weight(0, 1), 1);
        due("plan", x.plan(1, 0, 0), 1);
    }

    private static void freeComesBack() {
        sentence("FREE distances are kept");
        StepRegisters x = new StepRegisters();
        x.put(COPY, 6, 0, 0);
        x.free(1, 0);
        x.free(6, 1);
        x.image(1);
        due("hand", x.hand(0), 1);
        x.free(6, 0);
        x.free(1, 1);
        due("hand", x.hand(0), 2);
        due("plan", x.plan(1, 0, 0), 1);
        x.restore(1);
        due("hand", x.hand(0), 1);
        due("plan", x.plan(1, 0, 0), 2);
        due("free", x.free(6, 1), 64);
    }

    private static void valuesComeBack() {
        sentence("VALUES are kept");
        StepRegisters x = new StepRegisters();
        x.put(SUM, 0, 0, 6);
        x.set(0, Integer.MIN_VALUE);
        x.set(6, Integer.MAX_VALUE);
        x.image(0);
        x.run(1, 0);
        due("run", x.value(0), -1);
        x.set(6, 0);
        x.set(3, 8);
        x.restore(0);
        due("value(0)", x.value(0), Integer.MIN_VALUE);
        due("value(6)", x.value(6), Integer.MAX_VALUE);
        due("value(3)", x.value(3), 0);
        due("how many other than 0", x.set(3, 0), 2);
    }

    private static void handComesBack() {
        sentence("HAND is kept");
        StepRegisters x = new StepRegisters();
        x.exchange(0, 6);
        x.exchange(6, 5);
        x.image(1);
        x.exchange(5, 1);
        x.exchange(0, 3);
        x.restore(1);
        int[] want = {6, 1, 2, 3, 4, 0, 5};
        for (int v = 0; v <= 6; v++) {
            due("count(1" + v + ")", x.count(10 + v), want[v]);
        }
    }

    private static void imageStays() {
        sentence("promise 20: the IMAGE stays");
        StepRegisters x = new StepRegisters();
        x.put(SUM, 0, 1, 2);
        x.set(5, 5);
        x.free(4, 1);
        x.exchange(1, 2);
        x.image(0);
        for (int again = 0; again < 3; again++) {
            due("restore", x.restore(0), 1);
            due("count(6)", x.count(6), 1);
            due("count(0)", x.count(0), 1);
            due("LEFT", x.told(0, 2), 1);
            due("value", x.value(5), 5);
            due("hand", x.count(11), 2);
            due("free", x.free(4, 1), 18);
            // What is changed behind it must not reach into the IMAGE.
            x.cross(0);
            x.put(COPY, 3, 3, 3);
            x.set(5, again);
            x.free(4, 0);
            x.exchange(1, 6);
        }
    }

    private static void imagesApart() {
        sentence("IMAGES 0 and 1 are kept apart");
        StepRegisters x = new StepRegisters();
        x.set(0, 10);
        x.image(0);
        x.set(0, 11);
        x.put(COPY, 1, 0, 0);
        x.image(1);
        x.set(0, 12);
        x.put(COPY, 2, 0, 0);
        due("restore(0)", x.restore(0), 1);
        due("value", x.value(0), 10);
        due("count", x.count(0), 0);
        due("restore(1)", x.restore(1), 1);
        due("value", x.value(0), 11);
        due("count", x.count(0), 1);
        due("restore(0)", x.restore(0), 1);
        due("value", x.value(0), 10);
        due("image(1), what 0 had", x.image(1), 1);
        x.set(0, 13);
        due("restore(1)", x.restore(1), 1);
        due("value", x.value(0), 10);
        due("count", x.count(0), 0);
    }

    private static void inPlace() {
        sentence("promise 19: in place of what was kept there: 1");
        StepRegisters x = new StepRegisters();
        x.set(1, 1);
        x.put(SUM, 0, 0, 0);
        x.put(SUM, 1, 1, 1);
        due("image", x.image(1), 1);
        x.drop(1);
        x.set(1, 2);
        x.free(2, 1);
        x.exchange(3, 4);
        due("image again", x.image(1), 1);
        x.set(1, 3);
        x.drop(0);
        x.free(2, 0);
        x.exchange(3, 5);
        x.restore(1);
        due("value", x.value(1), 2);
        due("count(0)", x.count(0), 1);
        due("free", x.free(2, 1), 6);
        due("hand", x.count(13), 4);
        due("hand", x.count(15), 5);
        due("count(6)", x.count(6), 2);
    }

    private static void keptSetStays() {
        sentence("What an IMAGE keeps is THE PROGRAM, FREE distances, VALUES and HAND, and not which IMAGES are kept");
        StepRegisters x = new StepRegisters();
        x.image(0);
        x.image(1);
        x.restore(0);
        due("1 was kept behind it", x.count(6), 3);
        due("restore(1)", x.restore(1), 1);
        due("both", x.count(6), 3);
    }
}
