/** Promises 40 to 44 at their edges: costs up to the greatest and above it, images, what was refused. */
public final class EdgesOfCostsTest {
    private static final int LEAST = Integer.MIN_VALUE;
    private static final int MOST = Integer.MAX_VALUE;
    private static final long GREATEST = 9223372036854775807L;
    private static final int IMAGE = 4;

    public static void main(String[] args) {
        constants();
        cost();
        costGreat();
        costNone();
        bill();
        billGreat();
        billNone();
        keep();
        keepLeavesOut();
        keepRefused();
        back();
        backRefused();
        statusCounts();
        statusStays();
        statusNone();
        Check.finish("EdgesOfCostsTest");
    }

    private static void constants() {
        Check.sentence("The constants", "NONE = -1, GREAT = -2");
        Check.due("NONE", StreetNames.NONE, -1);
        Check.due("GREAT", StreetNames.GREAT, -2);
    }

    /** A STREET with a NAME and so many HOUSES. */
    private static StreetNames street(String name, int houses) {
        return Check.of("street " + name + ";" + housesOf(name, houses));
    }

    private static String housesOf(String name, int many) {
        StringBuilder text = new StringBuilder();
        for (int i = 0; i < many; i++) {
            text.append("house ").append(name).append(" left ").append(i).append(" 1;");
        }
        return text.toString();
    }

    private static void cost() {
        Check.sentence("Promise 40", "What it costs to rename a STREET by a rate (0 .. 9223372036854775807): HOUSES times"
            + " letters of its NAME times the rate");
        Check.due("rate 0", street("oak", 2).cost(0, 0), 0);
        Check.due("rate 1", street("oak", 2).cost(0, 1), 6);
        Check.due("no HOUSES", street("oak", 0).cost(0, 5), 0);
        Check.due("no HOUSES, the greatest rate", street("oak", 0).cost(0, GREATEST), 0);
        Check.due("12 HOUSES, 10 letters", street("abcdefghij", 12).cost(0, 1), 120);
        Check.due("one HOUSE, one letter, the greatest rate", street("a", 1).cost(0, GREATEST), GREATEST);
        StreetNames x = Check.of("street oak;house oak left 0 1;pool plane;");
        x.take(0, 0);
        Check.due("by the NAME that it has", x.cost(0, 1), 5);
        Check.due("of the last STREET", Check.of("street a;street bb;house bb left 0 1;").cost(1, 3), 6);
    }

    private static void costGreat() {
        Check.sentence("Promise 40", "GREAT: more than can be told (above 9223372036854775807)");
        int[] houses = {1, 1, 2, 7, 12, 12};
        String[] names = {"abcdefg", "ab", "a", "abcdefg", "a", "abcdefghij"};
        for (int i = 0; i < houses.length; i++) {
            long factor = (long) houses[i] * names[i].length();
            StreetNames x = street(names[i], houses[i]);
            Check.due(factor + ": as much as goes", x.cost(0, GREATEST / factor), GREATEST / factor * factor);
            Check.due(factor + ": one more", x.cost(0, GREATEST / factor + 1), -2);
            Check.due(factor + ": the greatest rate", x.cost(0, GREATEST), -2);
            Check.due(factor + ": 2 to the 62nd", x.cost(0, 1L << 62), -2);
        }
        Check.due("just the greatest, 1 times 7", street("abcdefg", 1).cost(0, 1317624576693539401L), GREATEST);
        Check.due("just the greatest, 7 times 7", street("abcdefg", 7).cost(0, 188232082384791343L), GREATEST);
        Twins.tells("cost GREAT", Twins::lived, x -> x.cost(0, GREATEST), -2);
    }

    private static void costNone() {
        Check.sentence("Promise 40", "NONE when the rate is below 0, or there is no such STREET");
        for (long rate : new long[] {-1, LEAST, Long.MIN_VALUE}) {
            Twins.tells("cost(0, " + rate + ")", Twins::lived, x -> x.cost(0, rate), -1);
            Check.due("no HOUSES: cost(0, " + rate + ")", street("oak", 0).cost(0, rate), -1);
        }
        for (int s : new int[] {-1, 2, LEAST, MOST}) {
            Twins.tells("cost(" + s + ", 1)", Twins::lived, x -> x.cost(s, 1), -1);
            Check.due("cost(" + s + ", the greatest)", Twins.lived().cost(s, GREATEST), -1);
        }
        Check.due("nothing told", new StreetNames().cost(0, 0), -1);
    }

    private static void bill() {
        Check.sentence("Promise 41", "What THE PLAN costs by a rate, all its STREETS together");
        Check.due("nothing told", new StreetNames().bill(GREATEST), 0);
        Check.due("no CLASHES", Check.of("street oak;street elm;" + housesOf("oak", 3)).bill(GREATEST), 0);
        StreetNames x = Check.of("street mill;street milk;pool oak;" + housesOf("mill", 2) + housesOf("milk", 3));
        Check.due("one STREET", x.bill(10), 80);
        Check.due("rate 0", x.bill(0), 0);
        x = Check.of("street mill;street milk;pool oak;" + housesOf("milk", 3));
        Check.due("one STREET without HOUSES, the greatest rate", x.bill(GREATEST), 0);
        x = Check.of("street mill;street milk;street abc;street abd;pool oakk elmmm;" + housesOf("mill", 1)
            + housesOf("milk", 1) + housesOf("abc", 1) + housesOf("abd", 1));
        Check.due("two STREETS: 4 and 3", x.bill(1), 7);
        Check.due("two STREETS: 4 and 3, by 5", x.bill(5), 35);
    }

    private static void billGreat() {
        Check.sentence("Promise 41", "GREAT: more than can be told, all its STREETS together");
        StreetNames x = Check.of("street mill;street milk;street abc;street abd;pool oakk elmmm;" + housesOf("mill", 1)
            + housesOf("milk", 1) + housesOf("abc", 1) + housesOf("abd", 1));
        long most = GREATEST / 7;
        Check.due("just the greatest", x.bill(most), GREATEST);
        Check.due("one more", x.bill(most + 1), -2);
        Check.due("each of them can be told", x.cost(0, most + 1) > 0 && x.cost(2, most + 1) > 0, true);
        Check.due("the greatest rate", x.bill(GREATEST), -2);
        StringBuilder text = new StringBuilder("near 1;");
        for (int s = 0; s < 10; s++) {
            text.append("street aaaaaaaaa").append((char) ('b' + s)).append(';');
        }
        x = Check.of(text + "pool cccc dddd eeee ffff gggg hhhh iiii jjjj kkkk;");
        for (int h = 0; h < 120; h++) {
            x.build(h / 12, 0, h % 12);
        }
        Check.due("9 STREETS, 12 HOUSES each, 10 letters", x.bill(1), 1080);
        Check.due("as much as goes", x.bill(GREATEST / 1080), GREATEST / 1080 * 1080);
        Check.due("one more", x.bill(GREATEST / 1080 + 1), -2);
        Check.due("the greatest rate", x.bill(GREATEST), -2);
    }

    private static void billNone() {
        Check.sentence("Promise 41", "NONE when there is none, or the rate is below 0");
        for (long rate : new long[] {-1, LEAST, Long.MIN_VALUE}) {
            Twins.tells("bill(" + rate + ")", Twins::lived, x -> x.bill(rate), -1);
            Check.due("nothing told: bill(" + rate + ")", new StreetNames().bill(rate), -1);
            Check.due("a PLAN: bill(" + rate + ")", Check.of("street a;street b;pool xyz;").bill(rate), -1);
        }
        for (long rate : new long[] {0, 1, GREATEST, -1}) {
            Twins.tells("no PLAN: bill(" + rate + ")", () -> Check.of("street a;street b;" + housesOf("a", 1)),
                x -> x.bill(rate), -1);
        }
    }

    /** Told, with an ACT done, an image kept in 0 and in 1. */
    private static StreetNames kept() {
        StreetNames x = Twins.lived();
        x.keep(0);
        x.years(1);
        x.keep(1);
        return x;
    }

    private static void keep() {
        Check.sentence("Promise 42", "All is kept in k (0, 1): true");
        for (int k = 0; k < 2; k++) {
            StreetNames x = Twins.lived();
            Check.due("keep(" + k + ")", x.keep(k), true);
            Check.due("acts stay", x.has(11), 2);
            Check.due("nothing is refused", x.status(IMAGE), 0);
            x.end(0);
            Check.town(x, "near 3;last 7;step 9;mute z;street oak;");
            Check.due("back(" + k + ")", x.back(k), true);
            int[] due = {2, 2, 2, 2, 1, 1, 3, 10, 1, 1, 1, 0};
            for (int what = 0; what < due.length; what++) {
                Check.due("has(" + what + ")", x.has(what), due[what]);
            }
            Check.same("a STREET", Check.name(x, 0, 1), "oak");
            Check.same("an ALIAS", Check.name(x, 2, 1), "milk");
            Check.due("its last YEAR", x.alias(1, 1), 4);
            Check.same("a KEY of the POOL", Check.key(x, 1, 1), "mist");
            Check.due("a number", x.house(0, 1, 2), 3);
            Check.due("the rules", Check.heard(x, "pheaz"), 4);
        }
        StreetNames x = new StreetNames();
        Check.due("nothing told", x.keep(1), true);
        Check.town(x, "street oak;");
        Check.due("back to nothing told", x.back(1), true);
        Check.due("no STREETS", x.has(0), 0);
        Check.due("image 0 was not kept", x.back(0), false);
        x = kept();
        x.years(1);
        x.keep(0);
        x.back(1);
        Check.due("image 1 stays, when 0 is kept anew", x.has(4), 2);
        x.back(0);
        Check.due("image 0 is kept anew", x.has(4), 3);
    }

    private static void keepLeavesOut() {
        Check.sentence("Promise 42", "All but the tape, FAULT, what heard() heard, ACTS, how many were refused");
        StreetNames x = Check.of("street oak;street elm;");
        Check.heard(x, "abc");
        Check.write(x, "oak");
        x.keep(0);
        x.end(0);
        Check.heard(x, "xyz");
        Check.town(x, "near 4;");
        x.years(0);
        x.years(1);
        x.end(1);
        x.keep(9);
        x.undo();
        x.undo();
        Check.write(x, "elm");
        Check.due("back", x.back(0), true);
        Check.due("FAULT", x.fault(0), 2);
        Check.due("its place", x.fault(1), 5);
        Check.due("what was heard", x.heardAt(0), 24);
        Check.due("ACTS", x.has(11), 0);
        for (int what = 0; what < 5; what++) {
            Check.due("status(" + what + ")", x.status(what), 1);
        }
        Check.due("the tape", x.find(), 101);
    }

    private static void keepRefused() {
        Check.sentence("Promise 42", "false, refused (4), when there is no such k");
        for (int k : new int[] {-1, 2, LEAST, MOST}) {
            Twins.refusedFlag("keep(" + k + ")", Twins::lived, x -> x.keep(k), IMAGE);
            Twins.refusedFlag("nothing told: keep(" + k + ")", StreetNames::new, x -> x.keep(k), IMAGE);
        }
    }

    private static void back() {
        Check.sentence("Promise 43", "All is as it was kept in k (nothing can be undone): true");
        StreetNames x = kept();
        Check.due("acts", x.has(11), 3);
        Check.due("back(0)", x.back(0), true);
        Check.due("nothing can be undone", x.has(11), 0);
        Check.due("undo", x.undo(), false);
        Check.due("the YEAR", x.has(4), 1);
        Check.due("back(1)", x.back(1), true);
        Check.due("the YEAR of 1", x.has(4), 2);
        x.years(9);
        x.tear(0, 0);
        Check.due("an image is not used up", x.back(1), true);
        Check.due("the YEAR of 1", x.has(4), 2);
        Check.due("HOUSES of 1", x.has(3), 2);
        Check.due("ACTS go on from there", x.years(1), 3);
        Check.due("one can be undone", x.has(11), 1);
        Check.due("undo", x.undo(), true);
        Check.due("the YEAR of 1", x.has(4), 2);
        Check.due("the town now has a PLAN", x.plan(0) >= 0, true);
        Check.due("nothing was refused", x.status(IMAGE), 0);
        x = Check.of("street ab;street ac;pool xyz;");
        x.keep(0);
        x.carry();
        Check.due("no CLASHES", x.clash(-1), 0);
        Check.due("no PLAN is needed", x.plan(0), 0);
        x.back(0);
        Check.due("a CLASH again", x.clash(-1), 1);
        Check.due("a PLAN again", x.plan(0), 1);
    }

    private static void backRefused() {
        Check.sentence("Promise 43", "false, refused (4), when there is no such k, or nothing was kept there");
        for (int k : new int[] {-1, 2, LEAST, MOST}) {
            Twins.refusedFlag("back(" + k + ")", Twins::lived, x -> x.back(k), IMAGE);
        }
        for (int k = 0; k < 2; k++) {
            int of = k;
            Twins.refusedFlag("nothing kept: back(" + k + ")", StreetNames::new, x -> x.back(of), IMAGE);
            Twins.refusedFlag("the other kept: back(" + k + ")", () -> {
                StreetNames x = Check.of("street oak;pool elm;house oak left 0 1;");
                x.keep(1 - of);
                x.years(1);
                return x;
            }, x -> x.back(of), IMAGE);
            Twins.refusedFlag("a refused keep: back(" + k + ")", () -> {
                StreetNames x = Check.of("street oak;");
                x.keep(2);
                x.keep(-1);
                return x;
            }, x -> x.back(of), IMAGE);
        }
    }

    private static void counts(StreetNames x, int... due) {
        for (int what = 0; what < due.length; what++) {
            Check.due("status(" + what + ")", x.status(what), due[what]);
        }
    }

    private static void statusCounts() {
        Check.sentence("Promise 44", "How many were refused: 0 feed(), end(); 1 town(); 2 take(), carry(), renumber(),"
            + " build(), tear(), years(); 3 undo(); 4 keep(), back()");
        StreetNames x = new StreetNames();
        counts(x, 0, 0, 0, 0, 0);
        x.end(1);
        counts(x, 1, 0, 0, 0, 0);
        for (int i = 0; i < 101; i++) {
            x.feed(0, 0, 0, 0, 0);
        }
        counts(x, 2, 0, 0, 0, 0);
        x.town();
        counts(x, 2, 1, 0, 0, 0);
        Check.town(x, "street ab;street ac;");
        x.take(0, 0);
        counts(x, 2, 1, 1, 0, 0);
        x.carry();
        counts(x, 2, 1, 2, 0, 0);
        x.renumber(2);
        counts(x, 2, 1, 3, 0, 0);
        x.build(2, 0, 0);
        counts(x, 2, 1, 4, 0, 0);
        x.tear(0, 0);
        counts(x, 2, 1, 5, 0, 0);
        x.years(0);
        counts(x, 2, 1, 6, 0, 0);
        x.undo();
        counts(x, 2, 1, 6, 1, 0);
        x.keep(2);
        counts(x, 2, 1, 6, 1, 1);
        x.back(0);
        counts(x, 2, 1, 6, 1, 2);
    }

    private static void statusStays() {
        Check.sentence("Promise 44", "How many were refused: what is done or asked is not counted, and none are forgotten");
        StreetNames x = Check.of("street ab;street ac;pool xyz;");
        x.keep(0);
        x.end(1);
        x.years(0);
        x.undo();
        x.keep(2);
        Check.town(x, "x");
        counts(x, 1, 1, 1, 1, 1);
        x.carry();
        x.undo();
        x.back(0);
        Check.town(x, "street a;");
        counts(x, 1, 1, 1, 1, 1);
        Check.heard(x, "of");
        Check.find(x, "of");
        Check.fades(x, "of");
        x.has(-1);
        x.fault(-1);
        x.would(9, 9, 9);
        x.why(9, 9);
        x.plan(9);
        x.cost(9, -1);
        x.bill(-1);
        x.status(9);
        counts(x, 1, 1, 1, 1, 1);
        for (int i = 0; i < 400; i++) {
            x.undo();
        }
        counts(x, 1, 1, 1, 401, 1);
    }

    private static void statusNone() {
        Check.sentence("Promise 44", "NONE for others");
        for (int what : new int[] {-1, 5, LEAST, MOST}) {
            Twins.tells("status(" + what + ")", Twins::lived, x -> x.status(what), -1);
        }
        Twins.tells("status(0)", Twins::lived, x -> x.status(0), 0);
        Twins.tells("status(4)", Twins::lived, x -> x.status(4), 0);
    }
}
