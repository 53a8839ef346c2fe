import java.io.IOException;
import java.io.UncheckedIOException;
import java.nio.file.Files;
import java.nio.file.Path;
import java.util.Arrays;

/** What the tests share: answers that are due, and rows and cities told in one line. */
final class Due {
    /** The city of most tests: corner 21, spaces 6 and 4, two of each kind. */
    static final String SIX = "v52/64;t2503;b3408;p1310;t4000;b5712;p2902";

    private static int wrong = 0;
    private static int asked = 0;
    private static String sentence = "";
    private static int askedAhead = 0;
    private static String document = "";

    private Due() { }

    static void due(String call, long got, long want) {
        asked++;
        if (got != want) {
            fail(call + " answered " + got + ", due is " + want);
        }
    }

    /** A call that names FAULTS: its answer, and what fault() tells behind it. */
    static void answers(TrickHouse x, String call, long got, long want, int fault) {
        due(call, got, want);
        due("fault() behind " + call, x.fault(), fault);
    }

    /**
     * What follows tests these words of the document; they are looked up in it, so that a test can't
     * outlive the words that it was read off.
     */
    static void says(String words) {
        endSentence();
        sentence = words;
        askedAhead = asked;
        if (!document().contains(words)) {
            fail("these words are not in the document");
        }
    }

    private static void fail(String what) {
        wrong++;
        System.out.println((sentence.isEmpty() ? "" : "\"" + sentence + "\": ") + what);
    }

    private static void endSentence() {
        if (!sentence.isEmpty() && asked == askedAhead) {
            fail("no answer was asked for");
        }
    }

    private static String document() {
        if (document.isEmpty()) {
            try {
                document = Files.readString(Path.of("../shared/DOC.md")).replaceAll("\\s+", " ");
            } catch (IOException e) {
                throw new UncheckedIOException(e);
            }
        }
        return document;
    }

    /** Ends the test: exit code 1, if an answer was not the one that is due. */
    static void end() {
        endSentence();
        System.out.println(asked + " answers, " + wrong + " not as due");
        if (wrong != 0 || asked == 0) {
            System.exit(1);
        }
    }

    static int[] codes(String text) {
        int[] codes = new int[text.length()];
        for (int i = 0; i < codes.length; i++) {
            codes[i] = text.charAt(i);
        }
        return codes;
    }

    static void row(TrickHouse x, int k, int lane, int... cells) {
        due("sheet of " + Arrays.toString(cells), x.sheet(k, lane, cells.length), 1);
        for (int i = 0; i < cells.length; i++) {
            due("put(" + k + ", " + i + ", " + cells[i] + ")", x.put(k, i, cells[i]), 1);
        }
    }

    static void rowIs(TrickHouse x, int k, int lane, int... cells) {
        for (int i = 0; i < cells.length; i++) {
            due("cell(" + k + ", " + i + ", " + lane + ")", x.cell(k, i, lane), cells[i]);
        }
        due("cell(" + k + ") behind the last", x.cell(k, cells.length, lane), TrickHouse.LOST);
        due("its fault()", x.fault(), 3);
    }

    /** What city() answers for a text. */
    static int taken(TrickHouse x, String text) {
        row(x, 0, 0, codes(text));
        return x.city(0, 0, 0, text.length());
    }

    static TrickHouse of(String text) {
        TrickHouse x = new TrickHouse();
        due("city of " + text, taken(x, text), (text.length() - text.indexOf(';')) / 6);
        return x;
    }

    static void send(TrickHouse x, int... articles) {
        for (int a : articles) {
            due("send(" + a + ") in a run", x.send(a), 0);
        }
    }
}
