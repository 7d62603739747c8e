import java.util.ArrayList;
import java.util.List;

/** Counts answers that are not as due, and ends the program with 1 if there was one. */
final class Check {
    private final List<Run> runs = new ArrayList<>();
    private int asked;
    private int wrong;
    private String about = "";

    /** What follows is about this promise. */
    void promise(int number, String name) {
        about = "promise " + number + " (" + name + "): ";
    }

    /** What follows is about this sentence of the document. */
    void sentence(String words) {
        about = "'" + words + "': ";
    }

    String about() {
        return about;
    }

    /** A run that is looked through once more when all are done. */
    void keep(Run run) {
        runs.add(run);
    }

    void due(String what, long got, long want) {
        asked++;
        if (got != want) {
            wrong++;
            System.out.println(about + what + " answered " + got + ", due is " + want);
        }
    }

    void same(String what, String got, String want) {
        asked++;
        if (!got.equals(want)) {
            wrong++;
            System.out.println(about + what + "\n  " + got + "\n  " + want);
        }
    }

    void end() {
        for (Run run : runs) {
            about = run.about();
            run.end();
        }
        System.out.println(asked + " answers, " + wrong + " of them not as due");
        if (wrong != 0 || asked == 0) {
            System.exit(1);
        }
    }
}
