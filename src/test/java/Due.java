/** Counts the answers of one test and tells the wrong ones. */
final class Due {
    private final String name;
    private int wrong;
    private int asked;

    Due(String name) {
        this.name = name;
    }

    void due(String call, long got, long want) {
        asked++;
        if (got != want) {
            wrong++;
            System.out.println(name + ": " + call + " answered " + got + ", due is " + want);
        }
    }

    boolean isFaultless() {
        return wrong == 0;
    }

    void end() {
        System.out.println(name + ": " + asked + " answers, " + wrong + " not as due");
        if (wrong != 0) {
            System.exit(1);
        }
    }
}
