import java.util.Arrays;

/** What the tests share: answers that are due, and rows and cities told in one line. */
final class Due {
    /** The city of most tests: corner 21, spaces 6 and 4, two of each kind. */
    static final String SIX = "v52/64;t2503;b3408;p1310;t4000;b5712;p2902";

    private static int wrong = 0;
    private static int asked = 0;

    private Due() { }

    static void due(String call, long got, long want) {
        asked++;
        if (got != want) {
            wrong++;
            System.out.println(call + " answered " + got + ", due is " + want);
        }
    }

    /** Ends the test: exit code 1, if an answer was not the one that is due. */
    static void end() {
        System.out.println(asked + " answers, " + wrong + " not as due");
        if (wrong != 0 || asked == 0) {
            System.exit(1);
        }
    }

    static int[] codes(String text) {
        int[] codes = new int[text.length()];
        for (int i = 0; i < codes.length; i++) {
            codes[i] = text.charAt(i);
        }
        return codes;
    }

    static void row(TrickHouse x, int k, int lane, int... cells) {
        due("sheet of " + Arrays.toString(cells), x.sheet(k, lane, cells.length), 1);
        for (int i = 0; i < cells.length; i++) {
            due("put(" + k + ", " + i + ", " + cells[i] + ")", x.put(k, i, cells[i]), 1);
        }
    }

    /** What city() answers for a text. */
    static int taken(TrickHouse x, String text) {
        row(x, 0, 0, codes(text));
        return x.city(0, 0, 0, text.length());
    }

    static TrickHouse of(String text) {
        TrickHouse x = new TrickHouse();
        due("city of " + text, taken(x, text), (text.length() - text.indexOf(';')) / 6);
        return x;
    }

    static void send(TrickHouse x, int... articles) {
        for (int a : articles) {
            due("send(" + a + ") in a run", x.send(a), 0);
        }
    }
}
