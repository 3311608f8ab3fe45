/** Counts and prints the answers that are not those that are due. */
final class Check {
    private int wrong = 0;
    private int all = 0;
    private String words = "";

    /** What follows is due to these words of the document. */
    void sentence(String words) {
        this.words = " (" + words + ")";
    }

    void due(String call, long got, long want) {
        all++;
        if (got != want) {
            wrong++;
            if (wrong < 50) {
                System.out.println(call + " answered " + got + ", due is " + want + words);
            }
        }
    }

    void isTrue(String what, boolean holds) {
        due(what, holds ? 1 : 0, 1);
    }

    void finish() {
        System.out.println(wrong + " of " + all + " answers are not as due");
        if (wrong != 0) {
            System.exit(1);
        }
    }
}
