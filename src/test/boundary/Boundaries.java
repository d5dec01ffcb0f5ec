import java.util.ArrayList;
import java.util.List;

/** Tests of one part of the document, a test for each sentence. */
abstract class Boundaries {
    static final String FOURTEEN_INNS = "i".repeat(14);
    /** Turns on that road, by PACE 1 and STOP 3, of which each is possible, and the race is not over then. */
    static final String SIXTY_TURNS = "t-1-".repeat(9) + "1-1" + "t-1-".repeat(5) + "t";

    private String section = "";

    abstract void tests();

    /** The heading that the next sentences stand under. */
    void section(String heading) {
        section = heading;
    }

    void sentence(String text, Runnable calls) {
        Sentences.tested(section, text);
        Report.begin(section, text);
        try {
            calls.run();
        } catch (RuntimeException e) {
            Report.fault("ended with " + e);
        }
    }

    /** Makes a call, told with a # for an argument, with numbers that are not in the argument's range. */
    static void refusesOutside(Wagons x, String call, int first, int last) {
        for (int number : outside(first, last)) {
            x.answers(call.replace("#", String.valueOf(number)) + " = INVALID_ARGUMENT");
        }
    }

    /** Numbers next to a range, far from it, and such as would be in it without some of their bits. */
    private static List<Integer> outside(int first, int last) {
        int[] near = {first - 1, last + 1, first - 2, last + 2, -last - 1, 1000, -1000};
        int[] far = {Integer.MIN_VALUE, Integer.MIN_VALUE + first, Integer.MIN_VALUE + last, Integer.MAX_VALUE,
            Integer.MAX_VALUE - 1, first + 256, last - 256, first + 65536, last - 65536, first | 1 << 30};
        List<Integer> numbers = new ArrayList<>();
        for (int[] row : new int[][] {near, far}) {
            for (int number : row) {
                if (number < first || number > last) {
                    numbers.add(number);
                }
            }
        }
        return numbers;
    }
}
