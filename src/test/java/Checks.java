/** Counts the answers of a test that are not as due, and has what several tests need. */
final class Checks {
    static final int NONE = -1, BAD_INDEX = -2, BAD_VALUE = -3, BAD_STATE = -4, FULL = -5;
    /** Ints that are no index, port, size or count of anything. */
    static final int[] FAR_OFF = {Integer.MIN_VALUE, Integer.MIN_VALUE + 1, -100, -6, -5, -4, -3, -2, -1,
        100001, 1 << 30, Integer.MAX_VALUE - 1, Integer.MAX_VALUE};

    private int answers = 0;
    private int wrong = 0;

    void due(int promise, String what, long got, long want) {
        due("promise " + promise + ": " + what, got, want);
    }

    void due(String what, long got, long want) {
        answers++;
        if (got != want) {
            wrong++;
            System.out.println(what + " answered " + got + ", due is " + want);
        }
    }

    void finish() {
        System.out.println(answers + " answers, " + wrong + " not as due");
        if (wrong > 0 || answers == 0) {
            System.exit(1);
        }
    }

    static void write(CoflowSimulator x, String text) {
        x.clearText();
        for (int i = 0; i < text.length(); i++) {
            x.type(text.charAt(i));
        }
    }

    /** Makes a group of flows that are told as a text. */
    static int group(CoflowSimulator x, String flows, int delay, int weight, int deadline) {
        write(x, flows);
        x.read();
        return x.addGroup(delay, weight, deadline);
    }

    static int group(CoflowSimulator x, String flows) {
        return group(x, flows, 0, 1, 0);
    }

    static void setAll(CoflowSimulator x, int capacity) {
        for (int port = 0; port < 16; port++) {
            x.setCapacity(port, capacity);
        }
    }

    /** Lets time pass in which nothing is sent. */
    static void passIdle(CoflowSimulator x, int many) {
        setAll(x, 0);
        x.pass(many);
        setAll(x, 100);
    }
}
