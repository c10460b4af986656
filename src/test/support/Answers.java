/** Holds answers beside those that are due; each fault is told with the sentence of the document that it breaks. */
final class Answers {
    private String sentence = "";
    private int held;
    private int wrong;

    /** What follows tests this sentence. */
    void sentence(String words) {
        sentence = words;
    }

    void due(String call, long got, long want) {
        held++;
        if (got != want) {
            wrong++;
            System.out.println("[" + sentence + "] " + call + " answered " + got + ", due is " + want);
        }
    }

    /** The last line of a test: ends the program with 1, if any answer was not as due. */
    void end() {
        System.out.println(wrong == 0 ? held + " answers are as due" : wrong + " answers are not as due");
        if (wrong != 0 || held == 0) {
            System.exit(1);
        }
    }

    /**
     * Numbers that are not from low to high: the nearest ones, the farthest ones, and those that would be taken for
     * allowed ones if only some of their bits were looked at.
     */
    static int[] beside(int low, int high) {
        return new int[] {
            low - 1, low - 2, low - 8, low - 32, low - 256, low - 65536, Integer.MIN_VALUE, Integer.MIN_VALUE + low,
            high + 1, high + 2, high + 8, high + 32, high + 256, high + 65536, Integer.MAX_VALUE - 1,
            Integer.MAX_VALUE};
    }
}
