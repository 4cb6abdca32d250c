/** The new object, the text and the draft: promises 1 to 7, and what the description says of them. */
final class DraftEdges {
    private static final int[] NO_BLANKS = {0, 9, 10, 13, 31, 33, 95, 128, 160, 255};
    private final Edges edges;

    DraftEdges(Edges edges) {
        this.edges = edges;
    }

    void run() {
        newObject();
        draft();
        textLength();
        portsOfTheText();
        sizesOfTheText();
        lists();
        blanks();
        positions();
        firstDigits();
        noRoom();
        tooEarly();
        type();
        clearText();
        textFault();
        flow();
        flowArguments();
        read();
        dropDraft();
    }

    private CoflowSimulator withDraft(int flows) {
        CoflowSimulator x = edges.object();
        fillDraft(x, flows);
        return x;
    }

    private static void fillDraft(CoflowSimulator x, int flows) {
        for (int i = 0; i < flows; i++) {
            x.flow(i % 8, 7 - i % 8, i + 1);
        }
    }

    /** The fault of a text, and whether read takes it, beside a draft of so many flows. */
    private void fault(int inDraft, String text, int fault) {
        CoflowSimulator x = withDraft(inDraft);
        Checks.write(x, text);
        edges.due("textFault() of \"" + text + "\"", x.textFault(), fault);
        int flows = (int) text.chars().filter(sign -> sign == ':').count();
        edges.due("read() of \"" + text + "\"", x.read(), fault == Edges.NONE ? inDraft + flows : Edges.BAD_STATE);
    }

    private void fault(String text, int fault) {
        fault(0, text, fault);
    }

    private void newObject() {
        CoflowSimulator x = edges.says(1, "Creates a simulator without groups, with an empty draft and an empty text, at "
                + "time 0, with the policy 0.");
        edges.due("groupCount()", x.groupCount(), 0);
        edges.due("state(0)", x.state(0), Edges.BAD_INDEX);
        edges.due("time()", x.time(), 0);
        edges.due("textFault()", x.textFault(), 0);
        edges.due("clearText()", x.clearText(), 0);
        edges.due("undo()", x.undo(), Edges.BAD_STATE);
        edges.due("eventCount()", x.eventCount(), 0);
        edges.due("addGroup of an empty draft", x.addGroup(0, 1, 0), Edges.BAD_STATE);
        edges.due("dropDraft()", x.dropDraft(), 0);
        edges.due("setPolicy(5)", x.setPolicy(5), 0);
        edges.due("setPolicy(0) of another new object", edges.object().setPolicy(0), 0);

        edges.says(0, "NONE = -1, BAD_INDEX = -2, BAD_VALUE = -3, BAD_STATE = -4, FULL = -5: NONE: there is none. The "
                + "others are error codes.");
        edges.due("NONE", CoflowSimulator.NONE, -1);
        edges.due("BAD_INDEX", CoflowSimulator.BAD_INDEX, -2);
        edges.due("BAD_VALUE", CoflowSimulator.BAD_VALUE, -3);
        edges.due("BAD_STATE", CoflowSimulator.BAD_STATE, -4);
        edges.due("FULL", CoflowSimulator.FULL, -5);
    }

    private void draft() {
        CoflowSimulator x = edges.says(0, "There is a draft: a list of at most 16 flows, at first empty, that the next "
                + "group gets.");
        edges.due("dropDraft()", x.dropDraft(), 0);
        fillDraft(x, 15);
        edges.due("the 16th flow", x.flow(3, 4, 5), 16);
        edges.due("the 17th flow", x.flow(3, 4, 5), Edges.FULL);
        x.addGroup(0, 1, 0);
        edges.due("flowCount(0)", x.flowCount(0), 16);
        for (int i = 0; i < 15; i++) {
            edges.due("size of flow " + i, x.flowPart(0, i, 2), i + 1);
        }
        edges.due("size of flow 15", x.flowPart(0, 15, 2), 5);
        edges.due("dropDraft() behind addGroup", x.dropDraft(), 0);
    }

    private void textLength() {
        edges.says(0, "Flows can be added to it by a text of at most 120 bytes with this grammar, where ");
        String sixteen = "0>0:1,".repeat(15) + "0>0:1";
        String full = sixteen + " ".repeat(25);
        fault(full, Edges.NONE);
        CoflowSimulator x = edges.object();
        Checks.write(x, full);
        edges.due("the 121st byte", x.type(32), Edges.FULL);
        edges.due("read() of 120 bytes", x.read(), 16);
        edges.due("clearText()", x.clearText(), 120);
        fault(" ".repeat(25) + sixteen, Edges.NONE);
        fault(" ".repeat(119) + "x", 119);
        fault(" ".repeat(119) + "0", 120);
        fault(" ".repeat(115) + "0>0:1", Edges.NONE);
        fault(" ".repeat(116) + "0>0:", 120);
        fault(" ".repeat(110) + "0>0:100000", Edges.NONE);
        fault(" ".repeat(110) + "0>0:100001", 114);
    }

    private void portsOfTheText() {
        edges.says(0, "a port has one digit, 0 to 7, and ");
        for (int sign = 0; sign < 256; sign++) {
            boolean digit = sign >= '0' && sign <= '7';
            if (sign != ' ') {
                fault((char) sign + ">1:5", digit ? Edges.NONE : 0);
                fault("1>" + (char) sign + ":5", digit ? Edges.NONE : 2);
            }
        }
        fault("00>1:5", 1);
        fault("0 0>1:5", 2);
        fault("0>11:5", 3);
        fault("0>1 1:5", 4);
    }

    private void sizesOfTheText() {
        edges.says(0, "a size is a number from 1 to 100000 with at most six digits:");
        String[] good = {"1", "9", "10", "99999", "100000", "01", "000001", "000009", "099999", "012345"};
        for (String size : good) {
            CoflowSimulator x = edges.object();
            Checks.group(x, "3>4:" + size);
            edges.due("the size of \"3>4:" + size + "\"", x.flowPart(0, 0, 2), Integer.parseInt(size));
        }
        String[] bad = {"0", "00", "000000", "100001", "100010", "999999", "0000001", "0100000", "1000000", "0000000",
            "4294967297", "18446744073709551617", "0".repeat(115) + "1"};
        for (String size : bad) {
            fault("3>4:" + size, 4);
        }
        for (int sign = 0; sign < 256; sign++) {
            if (sign != ' ' && (sign < '0' || sign > '9')) {
                fault("3>4:" + (char) sign, 4);
            }
        }
    }

    private void lists() {
        edges.says(0, "list = flow { \",\" flow }");
        fault("0>1:5", Edges.NONE);
        fault("0>1:5,1>2:6", Edges.NONE);
        fault("0>1:5,1>2:6,2>3:7", Edges.NONE);
        fault(",", 0);
        fault(",0>1:5", 0);
        fault("0>1:5,,1>2:6", 6);
        fault("0>1:5,", 6);
        fault("0>1:5;1>2:6", 5);
        fault("0>1:5 1>2:6", 6);
        fault("0>1:5.", 5);

        edges.says(0, "flow = port \">\" port \":\" size");
        fault("01:5", 1);
        fault("0>:5", 2);
        fault("0>15", 3);
        fault(">1:5", 0);
        fault("0>>1:5", 2);
        fault("0>1::5", 4);
        fault("0<1:5", 1);
        fault("0>1,5", 3);
        fault("0>1:-5", 4);
        fault("0>1:+5", 4);

        CoflowSimulator x = edges.says(0, "The first port is the sender, the second one the receiver.");
        Checks.group(x, "7>0:5,0>7:6");
        edges.due("sender 7", x.flowPart(0, 0, 0), 7);
        edges.due("receiver 0", x.flowPart(0, 0, 1), 0);
        edges.due("sender 0", x.flowPart(0, 1, 0), 0);
        edges.due("receiver 7", x.flowPart(0, 1, 1), 7);
    }

    private void blanks() {
        edges.says(0, "Blanks (32) may stand anywhere except within a size.");
        String text = "0>1:23,4>5:6";
        for (int at = 0; at <= text.length(); at++) {
            String head = text.substring(0, at);
            String tail = text.substring(at);
            fault(head + " " + tail, at == 5 ? 6 : Edges.NONE);
            fault(head + "   " + tail, at == 5 ? 8 : Edges.NONE);
            for (int sign : NO_BLANKS) {
                fault(head + (char) sign + tail, at);
            }
        }
        CoflowSimulator x = edges.object();
        Checks.group(x, "  0  >  1  :  23  ,  4  >  5  :  6  ");
        edges.due("flowCount(0)", x.flowCount(0), 2);
        edges.due("the first size", x.flowPart(0, 0, 2), 23);
        edges.due("the second size", x.flowPart(0, 1, 2), 6);
    }

    private void positions() {
        edges.says(0, "The fault of the text is the position, from 0, of the first byte that is not allowed at its place ");
        String text = "0>1:23,4>5:6";
        for (int at = 0; at < text.length(); at++) {
            fault(text.substring(0, at) + "x" + text.substring(at + 1), at);
            fault(text.substring(0, at) + "x", at);
            fault(text.substring(0, at) + "xx" + text.substring(at), at);
        }
        fault("0>1:23,4>5:6x", 12);
        fault("0>1:23,4>5:6 x", 13);
        fault("8>8:0", 0);
        fault("0>8:0", 2);
    }

    private void firstDigits() {
        edges.says(0, "(for a size that is out of its range or has too many digits, its first digit;");
        fault("0>1:0", 4);
        fault("0>1:  0", 6);
        fault("0>1:0x", 4);
        fault("0>1:0 5", 4);
        fault("0>1:100001,0>1:5", 4);
        fault("0>1:0000005", 4);
        fault("0>1: 1234567", 5);
        fault("0>1:100000,0>1:0", 15);
        fault("0>1:000005,0>1:100001", 15);
        fault("0>1:0,8>1:0", 4);
    }

    private void noRoom() {
        edges.says(0, "for a flow for which the draft would have no room, its first byte),");
        fault(15, "0>1:5", Edges.NONE);
        fault(15, "0>1:5,0>1:5", 6);
        fault(15, " 0>1:5 , 0>1:5", 9);
        fault(15, "0>1:5,0>1:0", 6);
        fault(15, "0>1:5,x", 6);
        fault(15, "0>1:0,0>1:5", 4);
        fault(15, "0>1:5,", 6);
        fault(15, "0>1:5, ", 7);
        fault(14, "0>1:5,0>1:5", Edges.NONE);
        fault(14, "0>1:5,0>1:5,0>1:5", 12);
        fault(16, "0>1:5", 0);
        fault(16, "  0>1:5", 2);
        fault(16, "0", 0);
        fault(16, "", 0);
        fault(16, "  ", 2);
        String sixteen = "0>0:1,".repeat(15) + "0>0:1";
        fault(sixteen, Edges.NONE);
        fault(sixteen + ",0>0:1", 96);
        fault(sixteen + ", 0>0:1", 97);
        fault(1, sixteen, 90);
    }

    private void tooEarly() {
        edges.says(0, "or the length of the text, if it ends too early (also if it is empty).");
        String text = "0>1:23,4>5:6";
        for (int length = 0; length <= text.length(); length++) {
            boolean whole = length == 5 || length == 6 || length == 12;
            fault(text.substring(0, length), whole ? Edges.NONE : length);
            fault(text.substring(0, length) + "  ", whole ? Edges.NONE : length + 2);
        }
        fault("", 0);
        fault(" ", 1);
        fault(" ".repeat(120), 120);
        fault("0>0:1" + " ".repeat(114) + ",", 120);
    }

    private void type() {
        CoflowSimulator x = edges.says(2, "Appends a byte to the text.");
        x.type('0');
        x.type('>');
        x.type('1');
        edges.due("textFault() behind three bytes", x.textFault(), 3);
        x.type(':');
        x.type('5');
        edges.due("textFault() behind five bytes", x.textFault(), Edges.NONE);
        edges.due("type is not undoable", x.undo(), Edges.BAD_STATE);

        x = edges.says(2, "code: the byte, 0 to 255");
        edges.due("type(-1)", x.type(-1), Edges.BAD_VALUE);
        edges.due("type(256)", x.type(256), Edges.BAD_VALUE);
        for (int code = 0; code < 120; code++) {
            edges.due("type(" + code + ")", x.type(code), code + 1);
        }
        x.clearText();
        for (int code = 136; code < 256; code++) {
            edges.due("type(" + code + ")", x.type(code), code - 135);
        }

        x = edges.says(2, "Returns the length of the text;");
        edges.due("the first byte", x.type(48), 1);
        edges.due("the second byte", x.type(48), 2);
        x.clearText();
        edges.due("the first byte behind clearText()", x.type(48), 1);

        edges.says(2, "BAD_VALUE if code is out of range;");
        for (int far : Checks.FAR_OFF) {
            edges.refused("type(" + far + ")", y -> Checks.write(y, "0>1:5"), y -> y.type(far), Edges.BAD_VALUE);
        }
        edges.refused("type(256)", y -> Checks.write(y, "0>1:5"), y -> y.type(256), Edges.BAD_VALUE);
        edges.refused("type(256) of a full text", y -> Checks.write(y, " ".repeat(120)), y -> y.type(256), Edges.BAD_VALUE);

        edges.says(2, "FULL if the text has 120 bytes.");
        edges.refused("type(53) of 120 bytes", y -> Checks.write(y, " ".repeat(115) + "0>1:5"), y -> y.type(53), Edges.FULL);
        x = edges.object();
        Checks.write(x, " ".repeat(119));
        edges.due("type(48) of 119 bytes", x.type(48), 120);
        edges.due("type(48) of 120 bytes", x.type(48), Edges.FULL);
    }

    private void clearText() {
        CoflowSimulator x = edges.says(3, "Empties the text.");
        Checks.write(x, " ".repeat(120));
        x.clearText();
        edges.due("textFault()", x.textFault(), 0);
        edges.due("type(48)", x.type(48), 1);
        edges.due("clearText is not undoable", x.undo(), Edges.BAD_STATE);

        x = edges.says(3, "Returns the length that it had.");
        edges.due("clearText() of an empty text", x.clearText(), 0);
        x.type(48);
        edges.due("clearText() of one byte", x.clearText(), 1);
        Checks.write(x, " ".repeat(120));
        x.type(48);
        edges.due("clearText() of a full text", x.clearText(), 120);
        edges.due("clearText() again", x.clearText(), 0);
    }

    private void textFault() {
        CoflowSimulator x = edges.says(4, "Checks the text.");
        Checks.write(x, "0>1:5");
        long before = x.digest();
        edges.due("textFault()", x.textFault(), Edges.NONE);
        edges.due("textFault() again", x.textFault(), Edges.NONE);
        edges.due("the digest behind it", x.digest(), before);
        edges.due("undo()", x.undo(), Edges.BAD_STATE);
        edges.due("clearText()", x.clearText(), 5);

        x = edges.says(4, "Returns its fault;");
        edges.due("textFault() of an empty text", x.textFault(), 0);
        x.type('0');
        edges.due("textFault() of \"0\"", x.textFault(), 1);
        x.type('0');
        edges.due("textFault() of \"00\"", x.textFault(), 1);

        x = edges.says(4, "NONE if it has none.");
        Checks.write(x, "0>1:5");
        edges.due("textFault()", x.textFault(), Edges.NONE);
        fillDraft(x, 16);
        edges.due("textFault() beside a full draft", x.textFault(), 0);
        x.undo();
        edges.due("textFault() when the draft has room again", x.textFault(), Edges.NONE);
    }

    private void flow() {
        CoflowSimulator x = edges.says(5, "Adds a flow to the draft. Undoable.");
        x.flow(2, 3, 50);
        edges.undoable("flow(4, 5, 60)", y -> y.flow(2, 3, 50), y -> y.flow(4, 5, 60), 2);
        edges.undoable("the 16th flow", y -> fillDraft(y, 15), y -> y.flow(4, 5, 60), 16);
        x.flow(4, 5, 60);
        x.addGroup(0, 1, 0);
        edges.due("size of flow 0", x.flowPart(0, 0, 2), 50);
        edges.due("size of flow 1", x.flowPart(0, 1, 2), 60);

        x = edges.says(5, "Returns the number of flows of the draft;");
        for (int i = 1; i <= 16; i++) {
            edges.due("flow " + i, x.flow(0, 0, 1), i);
        }

        edges.says(5, "BAD_INDEX if there is no such sender or receiver;");
        for (int far : new int[] {-1, 8, Integer.MIN_VALUE, Integer.MAX_VALUE}) {
            edges.refused("flow(" + far + ", 0, 1)", y -> y.flow(1, 1, 1), y -> y.flow(far, 0, 1), Edges.BAD_INDEX);
            edges.refused("flow(0, " + far + ", 1)", y -> y.flow(1, 1, 1), y -> y.flow(0, far, 1), Edges.BAD_INDEX);
            edges.refused("flow(0, " + far + ", 0) of a full draft", y -> fillDraft(y, 16), y -> y.flow(0, far, 0),
                    Edges.BAD_INDEX);
        }

        edges.says(5, "BAD_VALUE if size is out of range;");
        for (int far : new int[] {-1, 0, 100001, Integer.MIN_VALUE, Integer.MAX_VALUE}) {
            edges.refused("flow(0, 0, " + far + ")", y -> y.flow(1, 1, 1), y -> y.flow(0, 0, far), Edges.BAD_VALUE);
            edges.refused("flow(0, 0, " + far + ") of a full draft", y -> fillDraft(y, 16), y -> y.flow(0, 0, far),
                    Edges.BAD_VALUE);
        }

        edges.says(5, "FULL if the draft has 16 flows.");
        edges.refused("flow(0, 0, 1) of a full draft", y -> fillDraft(y, 16), y -> y.flow(0, 0, 1), Edges.FULL);
        edges.due("flow(0, 0, 1) of 15 flows", withDraft(15).flow(0, 0, 1), 16);
    }

    private void flowArguments() {
        CoflowSimulator x = edges.says(5, "sender: 0 to 7");
        edges.due("flow(-1, 0, 1)", x.flow(-1, 0, 1), Edges.BAD_INDEX);
        edges.due("flow(0, 0, 1)", x.flow(0, 0, 1), 1);
        edges.due("flow(7, 0, 1)", x.flow(7, 0, 1), 2);
        edges.due("flow(8, 0, 1)", x.flow(8, 0, 1), Edges.BAD_INDEX);

        x = edges.says(5, "receiver: 0 to 7");
        edges.due("flow(0, -1, 1)", x.flow(0, -1, 1), Edges.BAD_INDEX);
        edges.due("flow(0, 0, 1)", x.flow(0, 0, 1), 1);
        edges.due("flow(0, 7, 1)", x.flow(0, 7, 1), 2);
        edges.due("flow(0, 8, 1)", x.flow(0, 8, 1), Edges.BAD_INDEX);

        x = edges.says(5, "size: 1 to 100000");
        edges.due("flow(0, 0, 0)", x.flow(0, 0, 0), Edges.BAD_VALUE);
        edges.due("flow(0, 0, 1)", x.flow(0, 0, 1), 1);
        edges.due("flow(0, 0, 100000)", x.flow(0, 0, 100000), 2);
        edges.due("flow(0, 0, 100001)", x.flow(0, 0, 100001), Edges.BAD_VALUE);

        x = edges.says(0, "There are 8 senders and 8 receivers, each numbered from 0.");
        for (int port = 0; port < 8; port++) {
            edges.due("flow(" + port + ", " + port + ", 1)", x.flow(port, port, 1), port + 1);
        }
        edges.due("flow(8, 0, 1)", x.flow(8, 0, 1), Edges.BAD_INDEX);
        edges.due("flow(0, 8, 1)", x.flow(0, 8, 1), Edges.BAD_INDEX);

        x = edges.says(0, "A flow has a sender, a receiver and a size (1 to 100000 units).");
        x.flow(7, 0, 1);
        x.flow(0, 7, 100000);
        x.addGroup(0, 1, 0);
        int[][] want = {{7, 0, 1}, {0, 7, 100000}};
        for (int flow = 0; flow < 2; flow++) {
            for (int what = 0; what < 3; what++) {
                edges.due("flowPart(0, " + flow + ", " + what + ")", x.flowPart(0, flow, what), want[flow][what]);
            }
        }
    }

    private void read() {
        CoflowSimulator x = edges.says(6, "Adds the flows of the text to the draft, in their order. Undoable.");
        x.flow(7, 7, 7);
        Checks.write(x, "1>2:30,4>5:60,1>2:30");
        x.read();
        x.addGroup(0, 1, 0);
        int[] sizes = {7, 30, 60, 30};
        for (int flow = 0; flow < 4; flow++) {
            edges.due("size of flow " + flow, x.flowPart(0, flow, 2), sizes[flow]);
        }
        edges.due("the text stays", x.clearText(), 20);
        edges.undoable("read()", y -> Checks.write(y, "1>2:30,4>5:60"), CoflowSimulator::read, 2);

        x = edges.says(6, "Returns the number of flows of the draft;");
        Checks.write(x, "1>2:30,4>5:60");
        for (int flows = 2; flows <= 16; flows += 2) {
            edges.due("read()", x.read(), flows);
        }
        edges.due("read() of a full draft", x.read(), Edges.BAD_STATE);

        edges.says(6, "BAD_STATE if the text has a fault.");
        for (String text : new String[] {"", " ", "0>1:5,", "8>1:5", "0>1:0", "0>1:100001", "0>1:5 5"}) {
            edges.refused("read() of \"" + text + "\"", y -> {
                y.flow(1, 1, 1);
                Checks.write(y, text);
            }, CoflowSimulator::read, Edges.BAD_STATE);
        }
        edges.refused("read() of more flows than there is room for", y -> {
            fillDraft(y, 15);
            Checks.write(y, "0>1:5,0>1:6");
        }, CoflowSimulator::read, Edges.BAD_STATE);
        edges.refused("read() beside a full draft", y -> {
            fillDraft(y, 16);
            Checks.write(y, "0>1:5");
        }, CoflowSimulator::read, Edges.BAD_STATE);
    }

    private void dropDraft() {
        CoflowSimulator x = edges.says(7, "Empties the draft. Undoable.");
        fillDraft(x, 16);
        x.dropDraft();
        edges.due("addGroup", x.addGroup(0, 1, 0), Edges.BAD_STATE);
        edges.due("flow(0, 0, 1)", x.flow(0, 0, 1), 1);
        edges.undoable("dropDraft()", y -> fillDraft(y, 3), CoflowSimulator::dropDraft, 3);
        edges.undoable("dropDraft() of an empty draft", y -> y.setPolicy(1), CoflowSimulator::dropDraft, 0);

        x = edges.says(7, "Returns how many flows it had.");
        edges.due("dropDraft() of an empty draft", x.dropDraft(), 0);
        x.flow(0, 0, 1);
        edges.due("dropDraft() of one flow", x.dropDraft(), 1);
        fillDraft(x, 17);
        edges.due("dropDraft() of a full draft", x.dropDraft(), 16);
        edges.due("dropDraft() again", x.dropDraft(), 0);
    }
}
