import java.io.IOException;
import java.util.ArrayList;
import java.util.List;
import java.util.function.Consumer;
import java.util.function.ToLongFunction;

/**
 * Tests of the document's sentences, each behind a quotation of its own. A quotation that the document does not have, a
 * quotation without an answer behind it and a sentence that is not quoted are faults like a wrong answer.
 */
final class Edges {
    static final int NONE = -1, BAD_INDEX = -2, BAD_VALUE = -3, BAD_STATE = -4, FULL = -5;
    static final int WHAT_IT_IS = Document.WHAT_IT_IS, DESCRIPTION = Document.DESCRIPTION;

    private final Document document;
    private boolean used = false;
    private String sentence = "";
    private int sentences = 0;
    private int answers = 0;
    private int answersBefore = 0;
    private int wrong = 0;

    Edges() throws IOException {
        document = new Document();
        if (document.sectionCount() != 40) {
            fault("the document has " + document.sectionCount() + " sections, not what it is, the description and 38 promises");
        }
    }

    /** Begins the test of a sentence, and makes an object for it. */
    CoflowSimulator says(int section, String words) {
        endSentence();
        sentence = "section " + section + ", \"" + words + "\"";
        sentences++;
        if (!document.quote(section, words)) {
            fault(sentence + " is not in the document");
        }
        return object();
    }

    /** From now on the objects of the tests are used ones: of what has happened in them, all was undone. */
    void takeUsedObjects() {
        used = true;
    }

    CoflowSimulator object() {
        return used ? usedObject() : new CoflowSimulator();
    }

    /**
     * An object with which much has happened, and all of it was undone and cleared: it must answer as a new one does, so
     * nothing may be left of its sixteen flows, groups, events and foretellings.
     */
    private static CoflowSimulator usedObject() {
        CoflowSimulator x = new CoflowSimulator();
        Checks.write(x, "7>6:99" + ",0>0:99".repeat(15));
        x.read();
        x.addGroup(0, 7, 5);
        x.flow(0, 0, 100000);
        x.addGroup(0, 1, 3);
        x.pass(3);
        x.setRules(false, true);
        x.outlook(0);
        x.total(0);
        x.bestOrder();
        x.nextRate(1, 0);
        x.place(0);
        for (int i = 0; i < 6; i++) {
            x.undo();
        }
        x.clearText();
        return x;
    }

    private void endSentence() {
        if (sentences > 0 && answers == answersBefore) {
            fault(sentence + " has no test");
        }
        answersBefore = answers;
    }

    private void fault(String what) {
        wrong++;
        System.out.println(what);
    }

    void due(String what, long got, long want) {
        answers++;
        if (got != want) {
            fault(sentence + ": " + what + " answered " + got + ", due is " + want);
        }
    }

    /** The call must answer an error, and leave an object that can't be told from one without the call. */
    void refused(String what, Consumer<CoflowSimulator> before, ToLongFunction<CoflowSimulator> call, long code) {
        for (Consumer<Probe> probing : Probe.ALL) {
            CoflowSimulator with = object();
            CoflowSimulator without = new CoflowSimulator();
            before.accept(with);
            before.accept(without);
            due(what, call.applyAsLong(with), code);
            due(what + " changes nothing", sameAnswers(probing, with, without) ? 1 : 0, 1);
        }
    }

    /** The call is saved, and undo brings back what was before it. */
    void undoable(String what, Consumer<CoflowSimulator> before, ToLongFunction<CoflowSimulator> call, long answer) {
        CoflowSimulator with = object();
        CoflowSimulator without = new CoflowSimulator();
        before.accept(with);
        before.accept(without);
        without.setPolicy(0);
        int left = without.undo();
        due(what, call.applyAsLong(with), answer);
        due("undo() behind " + what, with.undo(), left);
        for (Consumer<Probe> probing : Probe.ALL) {
            CoflowSimulator again = object();
            CoflowSimulator never = new CoflowSimulator();
            before.accept(again);
            before.accept(never);
            call.applyAsLong(again);
            again.undo();
            never.setPolicy(0);
            never.undo();
            due("undo() of " + what + " brings all back", sameAnswers(probing, again, never) ? 1 : 0, 1);
        }
    }

    private static boolean sameAnswers(Consumer<Probe> probing, CoflowSimulator one, CoflowSimulator other) {
        Probe first = new Probe(one);
        Probe second = new Probe(other);
        probing.accept(first);
        probing.accept(second);
        return first.answers.equals(second.answers);
    }

    void finish() {
        endSentence();
        for (String words : document.leftOver()) {
            fault("no test quotes " + words);
        }
        System.out.println(sentences + " quotations, " + answers + " answers, " + wrong + " faults");
        if (wrong > 0 || answers == 0) {
            System.exit(1);
        }
    }

    /** Asks an object for all that it tells; each way leaves the object used up. */
    static final class Probe {
        static final List<Consumer<Probe>> ALL = List.of(Probe::askAll, Probe::undoAll, Probe::readText, Probe::goOn);

        final List<Long> answers = new ArrayList<>();
        private final CoflowSimulator x;

        Probe(CoflowSimulator x) {
            this.x = x;
        }

        private void note(long answer) {
            answers.add(answer);
        }

        private void askAll() {
            note(x.digest());
            note(x.textFault());
            note(x.bestOrder());
            note(x.bestOrderAt(0));
            note(x.bestPolicy());
            note(x.total(1));
            note(x.bound());
            for (int group = 0; group < 12; group++) {
                note(x.level(group));
                note(x.loneSpan(group));
                note(x.place(group));
                note(x.nextSpan(group));
                note(x.nextRate(group, 0));
                note(x.outlook(group));
            }
            note(x.digest());
        }

        private void undoAll() {
            for (int i = 0; i < 8; i++) {
                note(x.digest());
                note(x.undo());
            }
        }

        private void readText() {
            note(x.dropDraft());
            note(x.textFault());
            note(x.read());
            note(x.digest());
            note(x.clearText());
        }

        /** What was first in the latest tick shows in the preemptions of the next ones. */
        private void goOn() {
            note(x.pass(1));
            note(x.preemptions());
            note(x.digest());
            x.setPolicy(1);
            note(x.pass(3));
            note(x.digest());
        }
    }
}
