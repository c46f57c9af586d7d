/** Counts and prints the answers that are not as due. */
final class Check {
    private final String title;
    private int answers = 0;
    private int wrong = 0;

    Check(String title) {
        this.title = title;
        Watch.begin();
    }

    void due(String call, long got, long want) {
        answers++;
        if (got != want) {
            wrong++;
            System.out.println(title + ": " + call + " answered " + got + ", due is " + want);
        }
    }

    int answers() {
        return answers;
    }

    int wrong() {
        return wrong;
    }

    void finish() {
        System.out.println(title + ": " + answers + " answers, " + wrong + " wrong");
        if (wrong != 0) {
            System.exit(1);
        }
    }
}
