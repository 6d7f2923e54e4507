/** Promises 1 to 6 at their edges: a new object, the tape, town(), fault(), has(); and the 512th call. */
public final class EdgesOfTapeTest {
    private static final int LEAST = Integer.MIN_VALUE;
    private static final int MOST = Integer.MAX_VALUE;
    private static final int BLANKS = 0x20202020;

    public static void main(String[] args) {
        newObject();
        feedFills();
        feedRefused();
        feedOrder();
        endEdges();
        endCuts();
        endRefused();
        townEmpty();
        townRefused();
        townTaken();
        townBehindTown();
        townBehindFault();
        fault();
        hasOthers();
        hasMost();
        lastCall();
        Check.finish("EdgesOfTapeTest");
    }

    private static void newObject() {
        Check.sentence("Promise 1", "No STREETS, no POOL; near 1, last 10, step 10.");
        StreetNames x = new StreetNames();
        int[] due = {0, 0, 0, 0, 0, 1, 10, 10, 0, 0, 0, 0};
        for (int what = 0; what < due.length; what++) {
            Check.due("has(" + what + ")", x.has(what), due[what]);
        }
        Check.due("letter of a STREET", x.letter(0, 0, 0), -1);
        Check.due("letter of the POOL", x.letter(1, 0, 0), -1);
        Check.due("letter of an ALIAS", x.letter(2, 0, 0), -1);
        Check.due("houses", x.houses(0), -1);
        Check.due("clash", x.clash(-1), 0);
        Check.due("plan", x.plan(2), 0);
        Check.due("least", x.least(), 0);
        Check.due("bill", x.bill(1), 0);
        Check.due("the tape is empty", x.end(0), true);
        Check.due("nothing is heard", x.heardAt(0), -1);
        for (int what = 0; what < 5; what++) {
            Check.due("status(" + what + ")", x.status(what), 0);
        }
        Check.due("one byte of the tape", x.end(1), false);
        Check.due("an act to undo", x.undo(), false);
        Check.due("image 0", x.back(0), false);
        Check.due("image 1", x.back(1), false);
        Check.due("a year", x.years(1), 1);
    }

    private static int feedBlanks(StreetNames x) {
        return x.feed(BLANKS, BLANKS, BLANKS, BLANKS, BLANKS);
    }

    /** A tape of so many bytes, blanks but for what stands at its end. */
    private static StreetNames tapeOf(int length, String end) {
        StreetNames x = new StreetNames();
        Check.write(x, " ".repeat(length - end.length()) + end);
        return x;
    }

    private static void feedFills() {
        Check.sentence("Promise 2", "Twenty bytes come behind those on the tape: how many there are");
        StreetNames x = new StreetNames();
        for (int i = 1; i <= 100; i++) {
            Check.due("feed " + i, feedBlanks(x), 20 * i);
        }
        Check.sentence("Promise 2", "NONE, refused (0), if there would be more than 2000");
        Check.due("2020", feedBlanks(x), -1);
        Check.due("refused", x.status(0), 1);
        for (int length = 1981; length < 2000; length++) {
            Check.due(length + " and 20", feedBlanks(tapeOf(length, "")), -1);
        }
        Check.due("1980 and 20", feedBlanks(tapeOf(1980, "")), 2000);
        Check.due("1979 and 20", feedBlanks(tapeOf(1979, "")), 1999);
    }

    private static void feedRefused() {
        Check.sentence("Promise 2", "NONE, refused (0): nothing else changes");
        for (int length : new int[] {1981, 1999, 2000}) {
            StreetNames x = tapeOf(length, "street oak;");
            Check.due("feed", x.feed(-1, -1, -1, -1, -1), -1);
            Check.due("the tape is no longer", x.end(length + 1), false);
            Check.due("nor shorter", x.end(length), true);
            Check.due("refused", x.status(0), 2);
            Check.due("what it tells", x.town(), 1);
            Check.same("what it tells", Check.name(x, 0, 0), "oak");
        }
        Twins.refused("feed()", () -> {
            StreetNames x = Check.of("street oak;house oak left 0 1;");
            x.years(1);
            Check.write(x, " ".repeat(1981));
            return x;
        }, x -> x.feed(0, 0, 0, 0, 0), 0);
    }

    private static void feedOrder() {
        Check.sentence("Promise 2", "of each number the highest first");
        StreetNames x = new StreetNames();
        x.feed(0x73747265, 0x65742061, 0x62636465, 0x66676869, 0x6a3b2020);
        Check.due("town", x.town(), 1);
        Check.same("its name", Check.name(x, 0, 0), "abcdefghij");
        for (int at = 0; at < 20; at++) {
            int[] part = {BLANKS, BLANKS, BLANKS, BLANKS, BLANKS};
            part[at / 4] ^= (0x20 ^ 0xff) << 24 - 8 * (at % 4);
            Check.due("feed", x.feed(part[0], part[1], part[2], part[3], part[4]), 20);
            Check.due("town", x.town(), -1);
            Check.due("the byte 255 stands at", x.fault(1), at);
        }
    }

    private static void endEdges() {
        Check.sentence("Promise 3", "false, refused (0), if it has not so many, or n is below 0");
        int[] lengths = {0, 1, 20, 1999, 2000};
        for (int length : lengths) {
            StreetNames x = tapeOf(length, "");
            int[] wrong = {length + 1, 2001, MOST, -1, LEAST};
            for (int i = 0; i < wrong.length; i++) {
                Check.due(length + ": end(" + wrong[i] + ")", x.end(wrong[i]), false);
                Check.due(length + ": refused", x.status(0), i + 1);
            }
            Check.due(length + ": end of all", x.end(length), true);
            Check.due(length + ": end of none", x.end(0), true);
            Check.due(length + ": none is left", x.end(1), false);
            Check.due(length + ": refused", x.status(0), wrong.length + 1);
        }
    }

    private static void endCuts() {
        Check.sentence("Promise 3", "The tape has its first n bytes alone: true");
        StreetNames x = new StreetNames();
        Check.write(x, "street oakxyzuvwxyzu");
        Check.due("end(10)", x.end(10), true);
        Check.due("not longer", x.end(11), false);
        Check.due("feed comes behind", x.feed(0x3b202020, BLANKS, BLANKS, BLANKS, BLANKS), 30);
        Check.due("town", x.town(), 1);
        Check.same("its name", Check.name(x, 0, 0), "oak");
        Check.write(x, "street oak;x");
        Check.due("one byte less", x.end(11), true);
        Check.due("town", x.town(), 1);
        Check.write(x, "x");
        Check.due("end(0)", x.end(0), true);
        Check.due("an empty text", x.town(), 0);
        Check.due("nothing was refused but end(11)", x.status(0), 1);
    }

    private static void endRefused() {
        Check.sentence("Promise 3", "false, refused (0): nothing else changes");
        for (int n : new int[] {4, 2001, MOST, -1, LEAST}) {
            Twins.refusedFlag("end(" + n + ")", Twins::lived, x -> x.end(n), 0);
        }
    }

    private static void townEmpty() {
        Check.sentence("Promise 4", "The tape is THE TOWN: how many STREETS");
        StreetNames x = Check.of("near 3;street oak;alias elm of oak;pool bay;house oak left 0 1;");
        Check.due("a tape of nothing", x.town(), 0);
        int[] due = {0, 0, 0, 0, 0, 1, 10, 10, 0, 0, 0, 0};
        for (int what = 0; what < due.length; what++) {
            Check.due("then has(" + what + ")", x.has(what), due[what]);
        }
        Check.due("one", Check.town(x, "street a;"), 1);
        Check.due("ten", Check.town(x, "street a;street b;street c;street d;street e;street f;street g;street h;"
            + "street i;street j;"), 10);
        Check.due("none of eleven", Check.town(x, "street a;street b;street c;street d;street e;street f;street g;"
            + "street h;street i;street j;street k;"), -1);
        Check.due("ten stay", x.has(0), 10);
    }

    private static void townRefused() {
        Check.sentence("Promise 4", "NONE, refused (1), with a FAULT (all else stays); the tape goes, refused or not");
        String[] texts = {"x", "near 4;", "mute aa;", "street b;street c;pool a b;",
            "step 7;last 2;near 3;mute a;same bc;pair de f;street oak;house oak left 1 1;alias elm of oak;pool bay;;"};
        int[] faults = {1, 2, 3, 3, 1};
        int[] places = {0, 5, 5, 25, texts[4].length() - 1};
        for (int i = 0; i < texts.length; i++) {
            String text = texts[i];
            StreetNames with = Twins.lived();
            StreetNames without = Twins.lived();
            with.end(0);
            without.end(0);
            Check.due("town of \"" + text + "\"", Check.town(with, text), -1);
            Check.due("fault(0)", with.fault(0), faults[i]);
            Check.due("fault(1)", with.fault(1), places[i]);
            Check.due("the tape is gone", with.end(0), true);
            Twins.same("town of \"" + text + "\"", with, without, 1);
            StreetNames x = new StreetNames();
            Check.town(x, text);
            Check.due("no byte is left", x.end(1), false);
        }
    }

    private static void townTaken() {
        Check.sentence("Promise 4", "Without one the YEAR is 0, nothing can be undone");
        StreetNames x = Twins.lived();
        Check.due("acts ahead of it", x.has(11), 2);
        Check.due("the year ahead of it", x.has(4), 1);
        x.end(0);
        Check.due("town", Check.town(x, "street oak;"), 1);
        Check.due("the year", x.has(4), 0);
        Check.due("acts", x.has(11), 0);
        Check.due("no byte is left", x.end(1), false);
        Check.due("refused towns stay", x.status(1), 1);
        Check.due("what was heard stays", x.heardAt(0), 6);
        Check.due("undo", x.undo(), false);
        Check.due("image 1 stays", x.back(1), true);
        Check.due("its year", x.has(4), 1);
        Check.due("image 0 stays", x.back(0), true);
        Check.due("its streets", x.has(0), 2);
    }

    /** As much of all as there may be, in 2000 bytes. */
    private static String fullText() {
        StringBuilder text = new StringBuilder("near 3;last 99;step 99;mute efgh;");
        for (int i = 0; i < 8; i++) {
            text.append("same ").append((char) ('a' + 2 * i)).append((char) ('b' + 2 * i)).append(';');
            text.append("pair o").append((char) ('a' + i)).append(" z;");
        }
        for (int s = 0; s < 10; s++) {
            text.append("street x").append((char) ('a' + s)).append(';');
        }
        for (int i = 0; i < 12; i++) {
            text.append("alias y").append((char) ('a' + i)).append(" of xb;");
            text.append("pool zzzzz").append((char) ('a' + i)).append(';');
            text.append("house xa left ").append(i).append(" 1;");
            text.append("house xb right ").append(i).append(" 1;");
        }
        return text.toString();
    }

    private static void townBehindTown() {
        Check.sentence("Promise 4", "The tape is THE TOWN: nothing of an earlier one bears on it");
        String[] texts = {"", "street oak;", "street ab;street ac;pool klmno;alias opq of ab;",
            "same sb;pair tb c;mute c;street ab;street ac;pool klmno;house ac right 0 1;"};
        for (String text : texts) {
            StreetNames alone = Check.of(text);
            StreetNames behind = Check.of(fullText());
            behind.plan(0);
            Check.due("town of \"" + text + "\"", Check.town(behind, text), alone.has(0));
            String[] words = {"xa", "xb", "xc", "ya", "zzzzza", "cdob"};
            Check.same("\"" + text + "\" behind a full town", Seen.answers(behind, words), Seen.answers(alone, words));
        }
    }

    private static void townBehindFault() {
        Check.sentence("Promise 4", "with a FAULT all else stays: nothing of a refused text bears on a later one");
        String sound = "near 2;last 3;step 4;mute a;same bc;pair de f;street oak;house oak left 0 1;alias elm of oak;"
            + "pool bay;";
        for (String faulty : new String[] {"x", "x y", "7", "near 2", sound + "x", sound + "near 1;", sound + "street oak;",
            fullText() + "street k;"}) {
            StreetNames x = new StreetNames();
            Check.due("\"" + faulty + "\"", Check.town(x, faulty), -1);
            Check.due("a sound one behind it", Check.town(x, sound), 1);
            int[] due = {1, 1, 1, 1, 0, 2, 3, 4, 1, 1, 1, 0};
            for (int what = 0; what < due.length; what++) {
                Check.due("has(" + what + ")", x.has(what), due[what]);
            }
        }
    }

    private static void fault() {
        Check.sentence("Promise 5", "its FAULT (what 0; 0 without, and ahead of any), its place (1; NONE without)");
        StreetNames x = new StreetNames();
        Check.due("ahead of any: fault(0)", x.fault(0), 0);
        Check.due("ahead of any: fault(1)", x.fault(1), -1);
        Check.town(x, "near 1;near");
        Check.due("with: fault(0)", x.fault(0), 1);
        Check.due("with: fault(1)", x.fault(1), 7);
        x.years(0);
        x.undo();
        Check.heard(x, "of");
        Check.due("other calls leave it: fault(0)", x.fault(0), 1);
        Check.due("other calls leave it: fault(1)", x.fault(1), 7);
        Check.town(x, "x");
        Check.due("place 0: fault(1)", x.fault(1), 0);
        Check.town(x, "street a;");
        Check.due("without: fault(0)", x.fault(0), 0);
        Check.due("without: fault(1)", x.fault(1), -1);
        Check.sentence("Promise 5", "NONE for another what");
        for (int what : new int[] {-1, 2, LEAST, MOST}) {
            Twins.tells("fault(" + what + ")", Twins::lived, y -> y.fault(what), -1);
            Check.due("ahead of any: fault(" + what + ")", new StreetNames().fault(what), -1);
        }
    }

    private static void hasOthers() {
        Check.sentence("Promise 6", "NONE for others");
        for (int what : new int[] {-1, 12, LEAST, MOST}) {
            Twins.tells("has(" + what + ")", Twins::lived, x -> x.has(what), -1);
        }
        Twins.tells("has(0)", Twins::lived, x -> x.has(0), 2);
        Twins.tells("has(11)", Twins::lived, x -> x.has(11), 2);
    }

    private static void hasMost() {
        Check.sentence("Promise 6", "0 STREETS .. 11 ACTS that can be undone: as much as there may be");
        StringBuilder text = new StringBuilder("near 3;last 99;step 99;mute abcdefghijklmnopqrstuvwxyz;");
        for (int i = 0; i < 8; i++) {
            text.append("same ").append((char) ('a' + 2 * i)).append((char) ('b' + 2 * i)).append(';');
            text.append("pair x").append((char) ('a' + i)).append(" z;");
        }
        for (int s = 0; s < 10; s++) {
            text.append("street ").append((char) ('a' + s)).append(';');
        }
        for (int i = 0; i < 12; i++) {
            text.append("alias y").append((char) ('a' + i)).append(" of a;pool z").append((char) ('a' + i)).append(';');
        }
        StreetNames x = Check.of(text.toString());
        for (int h = 0; h < 120; h++) {
            Check.due("a house", x.build(h / 12, h % 2, h % 12) > 0, true);
            Check.due("acts", x.has(11), Math.min(h + 1, 20));
        }
        for (int i = 0; i < 11; i++) {
            x.years(i < 10 ? 99 : 9);
            Check.due("aliases go behind 99", x.has(2), i == 0 ? 12 : 0);
        }
        int[] due = {10, 12, 0, 120, 999, 3, 99, 99, 8, 8, 26, 20};
        for (int what = 0; what < due.length; what++) {
            Check.due("has(" + what + ")", x.has(what), due[what]);
        }
    }

    private static void lastCall() {
        Check.sentence("What it is", "An object is used for at most 512 calls after it has been made");
        StreetNames x = new StreetNames();
        int calls = 0;
        x.feed(0x73747265, 0x6574206f, 0x616b3b20, BLANKS, BLANKS);
        x.town();
        calls += 2;
        for (int i = 0; i < 9; i++) {
            x.years(99);
            calls++;
        }
        while (calls < 511) {
            boolean isBuilt = calls % 2 == 1;
            Check.due("call " + calls, isBuilt ? x.build(0, 0, 20) : x.tear(0, 0), isBuilt ? 5 : 0);
            calls++;
        }
        Check.due("the 512th call", x.has(4), 891);
    }
}
