/**
 * The boundaries that the document names: for each of its sentences a test that quotes it, makes
 * the calls at the boundary and one step to each side of it, and shows of refused calls that they
 * change nothing.
 */
public final class BoundaryTest {
    public static void main(String[] args) {
        BufferBoundaries.run();
        TextBoundaries.run();
        ErrorBoundaries.run();
        GraphBoundaries.run();
        ComponentBoundaries.run();
        SequenceBoundaries.run();
        SwitchBoundaries.run();
        PathBoundaries.run();
        EditBoundaries.run();
        UndoBoundaries.run();
        OutputBoundaries.run();
        sentencesWithoutCalls();
        Sentence.everyOneIsTested();
        Check.end();
    }

    /** What tells what the class is for, or what is free. */
    private static void sentencesWithoutCalls() {
        Sentence.withoutCalls("What it is",
                "Multigraphs with told degrees and the switches between them: two edges are"
                        + " replaced by two others, so that all degrees stay.");
        Sentence.withoutCalls("What it is",
                "The class realises sequences of degrees with loops, without loops and simply,"
                        + " lists all switches with the reasons against others, leads from one"
                        + " graph to another one with the same degrees on a path of switches, tells"
                        + " distances, components and bridges, and connects and simplifies graphs"
                        + " by switches.");
        Sentence.withoutCalls("What it is",
                "Everything is read from a text; changes can be undone.");
        Sentence.withoutCalls("The constants:",
                "The constructor and the methods follow, a promise each: the signature, then what"
                        + " it does.");
        Sentence.withoutCalls("Not promised",
                "How the state is held inside the object is free, as are the speed of each call,"
                        + " the text of toString and the behaviour of equals and hashCode.");
        Sentence.withoutCalls("Not promised",
                "Use of one object from several threads at once is not promised to be safe.");
        Sentence.withoutCalls("Not promised",
                "Nothing is promised beyond the answers and state changes described above, and"
                        + " nothing about an object after its 512th call.");
    }
}
