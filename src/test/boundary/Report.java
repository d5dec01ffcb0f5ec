/** Which sentence is tested now, and what was wrong so far. */
final class Report {
    private static String section = "";
    private static String sentence = "";
    private static int wrong = 0;

    private Report() {
    }

    static void begin(String newSection, String newSentence) {
        section = newSection;
        sentence = newSentence;
    }

    static void due(String what, double got, double want) {
        if (got != want) {
            fault(what + " answered " + told(got) + ", due is " + told(want));
        }
    }

    static void same(String what, String got, String want) {
        if (!got.equals(want)) {
            fault(what + "\n  is     " + got + "\n  due is " + want);
        }
    }

    static void fault(String text) {
        wrong++;
        System.out.println(section + " | " + sentence + "\n  " + text);
    }

    static int howManyWrong() {
        return wrong;
    }

    private static String told(double number) {
        return number == (int) number ? String.valueOf((int) number) : String.valueOf(number);
    }
}
