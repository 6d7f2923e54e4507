/** What the tests share: answers that are due, and texts that go onto the tape. */
final class Check {
    private static int right = 0;
    private static int wrong = 0;
    /** The words of the document that the answers are held against; empty where a test names none. */
    private static String sentence = "";
    private static int heldOfSentence = 1;

    private Check() {
    }

    /** From here on answers are held against these words of a promise or a term. */
    static void sentence(String where, String words) {
        if (heldOfSentence == 0) {
            tellWrong("nothing is held against it");
        }
        sentence = where + ", \"" + words + "\": ";
        heldOfSentence = 0;
    }

    private static void tellWrong(String what) {
        wrong++;
        heldOfSentence++;
        System.out.println(sentence + what);
    }

    private static void tellRight() {
        right++;
        heldOfSentence++;
    }

    static void due(String call, long got, long want) {
        if (got == want) {
            tellRight();
        } else {
            tellWrong(call + " answered " + got + ", due is " + want);
        }
    }

    static void due(String call, boolean got, boolean want) {
        due(call, got ? 1L : 0L, want ? 1L : 0L);
    }

    /** Puts a text onto the tape, behind what stands there. */
    static void write(StreetNames x, String text) {
        write(x, text, 0);
    }

    static void write(StreetNames x, String text, int standing) {
        for (int from = 0; from < text.length(); from += 20) {
            int[] part = new int[5];
            for (int i = 0; i < 20; i++) {
                int sign = from + i < text.length() ? text.charAt(from + i) : ' ';
                part[i / 4] = part[i / 4] << 8 | sign & 255;
            }
            x.feed(part[0], part[1], part[2], part[3], part[4]);
        }
        x.end(standing + text.length());
    }

    static int town(StreetNames x, String text) {
        write(x, text);
        return x.town();
    }

    /** A new object with a town that must be without FAULT. */
    static StreetNames of(String text) {
        StreetNames x = new StreetNames();
        if (town(x, text) == StreetNames.NONE) {
            due("town of \"" + text + "\", fault " + x.fault(0) + " at " + x.fault(1), 1, 0);
        }
        return x;
    }

    /** A text with a FAULT, which is refused. */
    static void faulty(String text, int fault, int place) {
        StreetNames x = new StreetNames();
        due("town of \"" + text + "\"", town(x, text), -1);
        due("fault of \"" + text + "\"", x.fault(0), fault);
        due("place in \"" + text + "\"", x.fault(1), place);
        due("refused \"" + text + "\"", x.status(1), 1);
    }

    /** A text without a FAULT. */
    static void sound(String text) {
        StreetNames x = new StreetNames();
        due("town of \"" + text + "\" is refused", town(x, text) == -1, false);
        due("fault of \"" + text + "\"", x.fault(0), 0);
        due("place in \"" + text + "\"", x.fault(1), -1);
        due("refused \"" + text + "\"", x.status(1), 0);
    }

    /** What has() tells of a text without a FAULT. */
    static void has(String text, int what, int want) {
        due("has(" + what + ") of \"" + text + "\"", of(text).has(what), want);
    }

    static int find(StreetNames x, String word) {
        write(x, word);
        return x.find();
    }

    static int fades(StreetNames x, String word) {
        write(x, word);
        return x.fades();
    }

    static int heard(StreetNames x, String word) {
        write(x, word);
        return x.heard();
    }

    static String name(StreetNames x, int kind, int k) {
        StringBuilder text = new StringBuilder();
        for (int i = 0; i < 10 && x.letter(kind, k, i) > 0; i++) {
            text.append((char) ('a' - 1 + x.letter(kind, k, i)));
        }
        return text.toString();
    }

    static String key(StreetNames x, int kind, int k) {
        StringBuilder text = new StringBuilder();
        for (int i = 0; i < 10 && x.key(kind, k, i) > 0; i++) {
            text.append((char) ('a' - 1 + x.key(kind, k, i)));
        }
        return text.toString();
    }

    static void same(String call, String got, String want) {
        if (got.equals(want)) {
            tellRight();
        } else {
            tellWrong(call + " is " + got + ", due is " + want);
        }
    }

    static void finish(String test) {
        sentence("", "");
        System.out.println(test + ": " + right + " answers as due, " + wrong + " not");
        if (wrong != 0) {
            System.exit(1);
        }
    }
}
