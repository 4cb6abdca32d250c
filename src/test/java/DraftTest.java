/** Promises 1 to 7: the new object, the text and the draft. */
public final class DraftTest {
    private static final Checks CHECKS = new Checks();

    private static void due(int promise, String what, long got, long want) {
        CHECKS.due(promise, what, got, want);
    }

    public static void main(String[] args) {
        newObject();
        type();
        clearText();
        textFault();
        textFaultWithoutRoom();
        flow();
        read();
        dropDraft();
        CHECKS.finish();
    }

    private static void newObject() {
        CoflowSimulator x = new CoflowSimulator();
        due(1, "groupCount()", x.groupCount(), 0);
        due(1, "time()", x.time(), 0);
        due(1, "eventCount()", x.eventCount(), 0);
        due(1, "preemptions()", x.preemptions(), 0);
        due(1, "undo()", x.undo(), Checks.BAD_STATE);
        due(1, "clearText()", x.clearText(), 0);
        long hash = 17;
        for (int number : new int[] {0, 0, 1, 0, 0}) {
            hash = 31 * hash + number;
        }
        for (int port = 0; port < 16; port++) {
            due(1, "spare", x.spare(port), 100);
            due(1, "moved", x.moved(port), 0);
            hash = 31 * (31 * hash + 100);
        }
        due(1, "digest()", x.digest(), 31 * hash);
        due(1, "setPolicy(5)", x.setPolicy(5), 0);
        due(1, "setRules", x.setRules(false, true), 1);
        due(1, "dropDraft()", x.dropDraft(), 0);
        CoflowSimulator other = new CoflowSimulator();
        due(1, "another object has its own policy", other.setPolicy(0), 0);
    }

    private static void type() {
        CoflowSimulator x = new CoflowSimulator();
        for (int code : Checks.FAR_OFF) {
            due(2, "type(" + code + ")", x.type(code), Checks.BAD_VALUE);
        }
        due(2, "type(256)", x.type(256), Checks.BAD_VALUE);
        due(2, "type(0)", x.type(0), 1);
        due(2, "type(255)", x.type(255), 2);
        for (int i = 3; i <= 120; i++) {
            due(2, "type(32)", x.type(32), i);
        }
        due(2, "type(32) of a full text", x.type(32), Checks.FULL);
        due(2, "type(256) of a full text", x.type(256), Checks.BAD_VALUE);
        due(2, "type(-1) of a full text", x.type(-1), Checks.BAD_VALUE);
        due(2, "type is not undoable", x.undo(), Checks.BAD_STATE);
        due(2, "clearText()", x.clearText(), 120);
        due(2, "type(48)", x.type(48), 1);
    }

    private static void clearText() {
        CoflowSimulator x = new CoflowSimulator();
        Checks.write(x, "0>1:5");
        due(3, "clearText()", x.clearText(), 5);
        due(3, "clearText() again", x.clearText(), 0);
        due(3, "textFault()", x.textFault(), 0);
        due(3, "type(49)", x.type(49), 1);
        due(3, "clearText is not undoable", x.undo(), Checks.BAD_STATE);
    }

    private static void fault(CoflowSimulator x, String text, int fault) {
        Checks.write(x, text);
        long before = x.digest();
        due(4, "textFault() of \"" + text + "\"", x.textFault(), fault);
        due(4, "textFault() of \"" + text + "\" again", x.textFault(), fault);
        due(4, "digest() behind textFault()", x.digest(), before);
    }

    private static void textFault() {
        CoflowSimulator x = new CoflowSimulator();
        String[] good = {"0>1:5", "7>7:100000", "0>0:1", "0>1:000001", " 0 > 1 : 5 ", "0>1:5 , 7 > 7 : 1 ", "0>1: 12",
            "   0>1:5,1>2:7", "0>1:099999"};
        for (String text : good) {
            fault(x, text, Checks.NONE);
        }
        String[] tooEarly = {"", " ", "0", "0>", "0>1", "0>1:", "0>1:5,", "0>1:5, ", "0 ", "0> ", "0>1 ", "0>1: ", "  0>1:5,7",
            "0>1:5,7>7:"};
        for (String text : tooEarly) {
            fault(x, text, text.length());
        }
        Object[][] bad = {{"8>1:5", 0}, {"0>8:5", 2}, {"9>1:5", 0}, {"0>9:5", 2}, {"0-1:5", 1}, {"0>1;5", 3}, {"0>1:x", 4},
            {"0>1:5x", 5}, {"0>1:0", 4}, {"0>1:0x", 4}, {"0>1:0,", 4}, {"0>1:000000", 4}, {"0>1:100001", 4}, {"0>1:999999", 4},
            {"0>1:0000001", 4}, {"0>1:1000000", 4}, {"0>1:99999999999999999999", 4}, {"0>1:4294967297", 4},
            {"0>1:00000000000000000000000000000000000000000001", 4}, {"0>1:5 0", 6}, {"0>1:5  0", 7}, {"00>1:5", 1},
            {"0 0>1:5", 2}, {"0>11:5", 3}, {"0>1 1:5", 4}, {"0>1:5;0>1:5", 5}, {",", 0}, {"0>1:5,,", 6}, {"0>1:-5", 4},
            {"0>1:+5", 4}, {"0>1:5\t", 5}, {"\t0>1:5", 0}, {"0>1:5" + (char) 160, 5}, {"0>1:5" + (char) 0, 5}, {"/>1:5", 0},
            {":>1:5", 0}, {"0>/:5", 2}, {"0>1:/", 4}, {"0>1::", 4}, {"0>1:5,8>1:5", 6}, {"0>1:5, 1>2:0 ,x", 11},
            {"0>>1:5", 2}, {">1:5", 0}, {"0>:5", 2}, {"0>1,5", 3}, {"x", 0}, {"" + (char) 255, 0}};
        for (Object[] row : bad) {
            fault(x, (String) row[0], (Integer) row[1]);
        }
    }

    private static void textFaultWithoutRoom() {
        CoflowSimulator x = new CoflowSimulator();
        String sixteen = "0>0:1,".repeat(15) + "0>0:1";
        fault(x, sixteen, Checks.NONE);
        fault(x, sixteen + ",", 96);
        fault(x, sixteen + ",0>0:1", 96);
        fault(x, sixteen + ", 0>0:1", 97);
        fault(x, sixteen + ",x", 96);
        for (int i = 0; i < 15; i++) {
            x.flow(0, 0, 1);
        }
        fault(x, "0>1:5", Checks.NONE);
        fault(x, "0>1:5,0>2:6", 6);
        fault(x, " 0>1:5 , 0>2:6", 9);
        fault(x, "0>1:5,0", 6);
        fault(x, "0>1:5,", 6);
        fault(x, "0>1:5, ", 7);
        fault(x, "0>1:0,0>1:5", 4);
        x.flow(0, 0, 1);
        fault(x, "0>1:5", 0);
        fault(x, "  0>1:5", 2);
        fault(x, "x", 0);
        fault(x, "", 0);
        fault(x, " ", 1);
        due(4, "undo()", x.undo(), 5);
        fault(x, "0>1:5", Checks.NONE);
    }

    private static void flow() {
        CoflowSimulator x = new CoflowSimulator();
        for (int far : Checks.FAR_OFF) {
            due(5, "flow(" + far + ", 0, 1)", x.flow(far, 0, 1), Checks.BAD_INDEX);
            due(5, "flow(0, " + far + ", 0)", x.flow(0, far, 0), Checks.BAD_INDEX);
            due(5, "flow(0, 0, " + far + ")", x.flow(0, 0, far), Checks.BAD_VALUE);
        }
        due(5, "flow(8, 0, 1)", x.flow(8, 0, 1), Checks.BAD_INDEX);
        due(5, "flow(0, 8, 1)", x.flow(0, 8, 1), Checks.BAD_INDEX);
        due(5, "flow(0, 0, 0)", x.flow(0, 0, 0), Checks.BAD_VALUE);
        due(5, "wrong flows are not saved", x.undo(), Checks.BAD_STATE);
        due(5, "flow(7, 0, 100000)", x.flow(7, 0, 100000), 1);
        due(5, "flow(0, 7, 1)", x.flow(0, 7, 1), 2);
        due(5, "undo()", x.undo(), 1);
        due(5, "flow(3, 4, 9)", x.flow(3, 4, 9), 2);
        for (int i = 3; i <= 16; i++) {
            due(5, "flow", x.flow(1, 2, i), i);
        }
        due(5, "flow of a full draft", x.flow(0, 0, 1), Checks.FULL);
        due(5, "flow(0, 0, 0) of a full draft", x.flow(0, 0, 0), Checks.BAD_VALUE);
        due(5, "flow(8, 0, 0) of a full draft", x.flow(8, 0, 0), Checks.BAD_INDEX);
        due(5, "a flow without room is not saved", x.undo(), 5);
        due(5, "undo() took back the flow before", x.flow(1, 2, 16), 16);
        x.addGroup(0, 1, 0);
        due(5, "flowCount(0)", x.flowCount(0), 16);
        due(5, "sender", x.flowPart(0, 0, 0), 7);
        due(5, "size", x.flowPart(0, 0, 2), 100000);
        due(5, "receiver", x.flowPart(0, 1, 1), 4);
        due(5, "size", x.flowPart(0, 15, 2), 16);
        due(5, "flow of the next draft", x.flow(0, 0, 1), 1);
    }

    private static void read() {
        CoflowSimulator x = new CoflowSimulator();
        due(6, "read() of an empty text", x.read(), Checks.BAD_STATE);
        Checks.write(x, "1>2:30, 4 > 5 : 60");
        due(6, "read()", x.read(), 2);
        due(6, "the text stays", x.read(), 4);
        due(6, "undo()", x.undo(), 1);
        due(6, "undo leaves the text", x.textFault(), Checks.NONE);
        x.flow(7, 7, 7);
        due(6, "read()", x.read(), 5);
        Checks.write(x, "0>0:1,");
        due(6, "read() of a text with a fault", x.read(), Checks.BAD_STATE);
        Checks.write(x, "0>0:1,".repeat(11) + "0>0:1");
        due(6, "read() without room", x.read(), Checks.BAD_STATE);
        due(6, "addGroup", x.addGroup(0, 1, 0), 0);
        int[][] want = {{1, 2, 30}, {4, 5, 60}, {7, 7, 7}, {1, 2, 30}, {4, 5, 60}};
        due(6, "flowCount(0)", x.flowCount(0), 5);
        for (int i = 0; i < 5; i++) {
            for (int what = 0; what < 3; what++) {
                due(6, "flowPart(0, " + i + ", " + what + ")", x.flowPart(0, i, what), want[i][what]);
            }
        }
        due(6, "read() with room", x.read(), 12);
    }

    private static void dropDraft() {
        CoflowSimulator x = new CoflowSimulator();
        due(7, "dropDraft() of an empty draft", x.dropDraft(), 0);
        due(7, "it is saved", x.undo(), 0);
        x.flow(1, 2, 3);
        x.flow(4, 5, 6);
        long before = x.digest();
        due(7, "dropDraft()", x.dropDraft(), 2);
        due(7, "addGroup without a draft", x.addGroup(0, 1, 0), Checks.BAD_STATE);
        due(7, "undo()", x.undo(), 2);
        due(7, "digest()", x.digest(), before);
        x.dropDraft();
        due(7, "flow", x.flow(0, 0, 1), 1);
    }
}
