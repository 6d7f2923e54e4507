import java.util.function.Consumer;
import java.util.function.Supplier;
import java.util.function.ToLongFunction;

/** Term III on ACTS, and promises 33 to 39, at their edges: what is refused changes nothing, what is done is undone. */
public final class EdgesOfActsTest {
    private static final int LEAST = Integer.MIN_VALUE;
    private static final int MOST = Integer.MAX_VALUE;
    private static final int ACT = 2;
    private static final int UNDO = 3;

    public static void main(String[] args) {
        whatIsAnAct();
        lastTwenty();
        take();
        takeKeys();
        takeOwnAlias();
        takeRefused();
        carry();
        carryRefused();
        renumber();
        renumberRefused();
        build();
        buildRefused();
        tear();
        tearRefused();
        years();
        yearsRefused();
        undo();
        undoRefused();
        Check.finish("EdgesOfActsTest");
    }

    private static void refused(String call, Supplier<StreetNames> made, ToLongFunction<StreetNames> act) {
        Twins.refused(call, made, act, ACT);
    }

    /** The town has lived, and mill and milk clash yet. */
    private static StreetNames clashing() {
        StreetNames x = Twins.lived();
        x.undo();
        return x;
    }

    private static void whatIsAnAct() {
        Check.sentence("Term III", "ACTS: take(), carry(), renumber(), build(), tear(), years() that are done");
        act("take", x -> x.take(0, 0));
        act("carry", x -> x.carry());
        act("renumber", x -> x.renumber(0));
        act("build", x -> x.build(0, 0, 50));
        act("tear", x -> x.tear(0, 0));
        act("years", x -> x.years(1));
        act("carry of none", x -> {
            x.carry();
            x.undo();
            return x.carry();
        });
        Twins.tells("undo is none", EdgesOfActsTest::clashing, x -> {
            x.years(1);
            return x.undo() ? 1 : 0;
        }, 1);
        StreetNames x = Check.of("street oak;");
        Check.due("carry where there are no CLASHES", x.carry(), 0);
        Check.due("it is an ACT", x.has(11), 1);
        Check.due("renumber where none is changed", x.renumber(0), 0);
        Check.due("it is an ACT", x.has(11), 2);
        Check.heard(x, "elm");
        x.keep(0);
        Check.town(x, "x");
        x.end(0);
        Check.due("heard(), keep(), a refused town(), end() are none", x.has(11), 2);
    }

    /** What was done can be undone: it counts, and behind undo() all is as it was. */
    private static void act(String call, ToLongFunction<StreetNames> done) {
        StreetNames x = clashing();
        int acts = x.has(11);
        Check.due(call + " is not refused", done.applyAsLong(x) == -1, false);
        Check.due(call + " counts", x.has(11), acts + 1);
        Check.due(call + ": nothing is refused", x.status(ACT), 0);
        Check.due(call + " is undone", x.undo(), true);
        Twins.same(call + " and undo", x, clashing(), -1);
    }

    private static void lastTwenty() {
        Check.sentence("Term III", "The last 20 can be undone");
        for (int acts : new int[] {0, 1, 19, 20, 21, 40, 41, 100}) {
            StreetNames x = Check.of("street oak;");
            for (int i = 1; i <= acts; i++) {
                x.years(1);
                Check.due("acts behind " + i, x.has(11), Math.min(i, 20));
            }
            int most = Math.min(acts, 20);
            for (int i = 1; i <= most; i++) {
                Check.due("undo " + i + " of " + acts, x.undo(), true);
                Check.due("the YEAR", x.has(4), acts - i);
                Check.due("acts", x.has(11), most - i);
            }
            Check.due("one more of " + acts, x.undo(), false);
            Check.due("the YEAR stays", x.has(4), acts - most);
            Check.due("refused", x.status(UNDO), 1);
        }
    }

    private static void take() {
        Check.sentence("Promise 33", "A STREET TAKES a NAME of the POOL: how many ALIASES there are");
        StreetNames x = Check.of("near 0;last 0;street a;street b;street c;street d;street e;street f;street g;street h;"
            + "street i;street j;pool k l m n o p q r s t u v;");
        Check.due("the first ALIAS", x.take(0, 0), 1);
        Check.due("of the last STREET the last NAME", x.take(9, 11), 2);
        Check.same("its NAME", Check.name(x, 0, 9), "v");
        Check.same("its ALIAS is the latest", Check.name(x, 2, 1), "j");
        Check.due("the ALIAS is of it", x.alias(1, 0), 9);
        Check.due("its last YEAR", x.alias(1, 1), 0);
        Check.due("the POOL stays", x.has(1), 12);
        x.years(1);
        Check.due("ALIASES are gone", x.has(2), 0);
        Check.due("one again", x.take(5, 5), 1);
    }

    private static void takeKeys() {
        Check.sentence("Term II", "It TAKES it: its NAME becomes an ALIAS of it, with its KEY");
        StreetNames x = Check.of("near 0;same sz;street rose;street mist;pool lass misst;");
        x.take(0, 0);
        Check.same("the NAME", Check.name(x, 0, 0), "lass");
        Check.same("its KEY", Check.key(x, 0, 0), "las");
        Check.same("the ALIAS", Check.name(x, 2, 0), "rose");
        Check.same("its KEY", Check.key(x, 2, 0), "rose");
        Check.due("found by the new KEY", Check.find(x, "laz"), 300);
        Check.due("not by the old one", Check.find(x, "roze"), -1);
        Check.due("by the old NAME", Check.find(x, "rose"), 200);
        x.take(1, 1);
        x.take(0, 0);
        Check.same("the second ALIAS", Check.name(x, 2, 1), "mist");
        Check.same("its KEY", Check.key(x, 2, 1), "mist");
    }

    private static void takeOwnAlias() {
        Check.sentence("Term II", "It TAKES it: its NAME becomes an ALIAS of it (the latest of all), a LIVE ALIAS of it"
            + " that is just the new NAME goes");
        StreetNames x = Check.of("near 0;last 5;street oak;street elm;pool bay yew fir;");
        x.take(0, 0);
        x.take(1, 2);
        x.take(0, 1);
        Check.due("oak, elm, bay", x.has(2), 3);
        Check.due("bay again", x.take(0, 0), 3);
        Check.same("0", Check.name(x, 2, 0), "oak");
        Check.same("1", Check.name(x, 2, 1), "elm");
        Check.same("2", Check.name(x, 2, 2), "yew");
        for (int k = 0; k < 3; k++) {
            Check.same("the KEY of " + k, Check.key(x, 2, k), Check.name(x, 2, k));
        }
        Check.due("the STREET of 1", x.alias(1, 0), 1);
        Check.due("the STREET of 2", x.alias(2, 0), 0);
        Check.due("yew again", x.take(0, 1), 3);
        Check.same("2 is bay", Check.name(x, 2, 2), "bay");
        x.years(5);
        Check.due("LIVE in the last YEAR: it goes", x.take(0, 0), 3);
        x.years(1);
        Check.due("yew alone is LIVE", x.has(2), 1);
        Check.due("its last YEAR", x.alias(0, 1), 10);
        Check.due("the other can't have it", x.take(1, 1), -1);
        x.years(5);
        Check.due("it is gone", x.has(2), 0);
        Check.due("none goes that was gone", x.take(1, 1), 1);
    }

    private static void takeRefused() {
        Check.sentence("Promise 33", "NONE, refused (2), when it can't");
        for (int wrong : new int[] {-1, 2, LEAST, MOST}) {
            refused("take(" + wrong + ", 0)", EdgesOfActsTest::clashing, x -> x.take(wrong, 0));
            refused("take(0, " + wrong + ")", EdgesOfActsTest::clashing, x -> x.take(0, wrong));
        }
        refused("why 1, its own", Twins::lived, x -> x.take(1, 0));
        refused("why 1, another's", Twins::lived, x -> x.take(0, 0));
        refused("why 2", () -> Check.of("near 1;street oak;street elm;pool oar;"), x -> x.take(1, 0));
        refused("why 3", () -> Check.of("near 1;street oak;street elm;alias yew of oak;pool yes;"), x -> x.take(1, 0));
        refused("no STREETS", () -> Check.of("pool yes;"), x -> x.take(0, 0));
        refused("no POOL", () -> Check.of("street yes;"), x -> x.take(0, 0));
        refused("nothing told", StreetNames::new, x -> x.take(0, 0));
    }

    private static void carry() {
        Check.sentence("Promise 34", "THE PLAN is carried out, STREET by STREET: how many were renamed (0: there are no"
            + " CLASHES)");
        Check.due("nothing told", new StreetNames().carry(), 0);
        Check.due("no CLASHES", Check.of("street ab;street cd;pool xyz;").carry(), 0);
        Check.due("one", Check.of("street ab;street ac;pool xyz;").carry(), 1);
        StreetNames x = Check.of("last 0;street xa;street xb;street xc;street xd;street xe;street xf;street xg;street xh;"
            + "street xi;street xj;pool aaaa bbbb cccc dddd eeee ffff gggg hhhh iiii;");
        Check.due("nine of ten", x.carry(), 9);
        Check.due("ALIASES", x.has(2), 9);
        for (int s = 0; s < 9; s++) {
            Check.due("ALIAS " + s + " is of", x.alias(s, 0), s);
            Check.due("letter of STREET " + s, x.letter(0, s, 3), s + 1);
        }
        Check.due("no CLASHES", x.clash(-1), 0);
        Check.due("one ACT", x.has(11), 1);
        Check.due("again: none", x.carry(), 0);
        Check.due("ALIASES stay", x.has(2), 9);
        Check.due("two ACTS", x.has(11), 2);
        Check.due("undo of none", x.undo(), true);
        Check.due("ALIASES stay", x.has(2), 9);
        Check.due("undo of nine", x.undo(), true);
        Check.due("no ALIASES", x.has(2), 0);
        Check.due("45 CLASHES", x.clash(-1), 45);
    }

    private static void carryRefused() {
        Check.sentence("Promise 34", "NONE, refused (2), when there is no PLAN");
        refused("no POOL", () -> Check.of("street ab;street ac;"), x -> x.carry());
        refused("none of the POOL goes", () -> Check.of("street ab;street ac;pool ad;"), x -> x.carry());
        refused("one too few", () -> Check.of("street ab;street ac;street xy;street xz;pool mmmm;"), x -> x.carry());
        refused("a town that has lived", () -> {
            StreetNames x = clashing();
            x.years(2);
            x.undo();
            x.end(0);
            Check.town(x, "street ab;street ac;alias xyz of ab;pool ad;");
            x.years(1);
            return x;
        }, x -> x.carry());
    }

    private static void renumber() {
        Check.sentence("Promise 35", "HOUSES of a STREET get their numbers THEN: how many were changed");
        Check.due("no HOUSES", Check.of("street a;").renumber(0), 0);
        StreetNames x = Check.of("street a;street b;house a left 0 2;house b left 0 2;house b right 5 1;house b left 5 1;");
        Check.due("of the last STREET", x.renumber(1), 3);
        Check.due("0", x.house(1, 0, 2), 1);
        Check.due("1", x.house(1, 1, 2), 2);
        Check.due("2", x.house(1, 2, 2), 3);
        Check.due("the other STREET stays", x.house(0, 0, 2), 2);
        Check.due("IN ORDER", x.ordered(1), 1);
        Check.due("again", x.renumber(1), 0);
        StringBuilder text = new StringBuilder("street a;");
        for (int i = 0; i < 12; i++) {
            text.append("house a left ").append(4880 + i).append(" 2;");
        }
        x = Check.of(text.toString());
        Check.due("twelve", x.renumber(0), 12);
        Check.due("the first", x.house(0, 0, 2), 977);
        Check.due("the last", x.house(0, 11, 2), 999);
    }

    private static void renumberRefused() {
        Check.sentence("Promise 35", "NONE, refused (2), when there is no such way, or no such STREET");
        for (int s : new int[] {-1, 2, LEAST, MOST}) {
            refused("renumber(" + s + ")", Twins::lived, x -> x.renumber(s));
        }
        refused("nothing told", StreetNames::new, x -> x.renumber(0));
        refused("LOW above 999", () -> Check.of("street a;house a left 0 2;house a left 5000 1;"), x -> x.renumber(0));
        refused("no room", () -> Check.of("street a;house a left 4990 1;house a left 4991 1;"), x -> x.renumber(0));
        refused("the right side alone", () -> Check.of("street a;house a left 0 2;house a right 4990 1;"),
            x -> x.renumber(0));
        refused("the left side alone", () -> Check.of("street a;house a right 0 1;house a left 5000 1;"),
            x -> x.renumber(0));
        Check.due("the last way", Check.of("street a;house a left 4990 1;").renumber(0), 1);
    }

    private static void build() {
        Check.sentence("Promise 36", "A house is BUILT (side 0 left, 1 right; yards 0 .. 9999): its number");
        StreetNames x = Check.of("step 99;street a;street b;");
        Check.due("left, yards 0", x.build(1, 0, 0), 1);
        Check.due("right, yards 0", x.build(1, 1, 0), 2);
        Check.due("left, yards 9999", x.build(1, 0, 9999), 203);
        Check.due("right, yards 9999", x.build(1, 1, 9999), 204);
        int[][] due = {{0, 0, 1}, {1, 0, 2}, {0, 9999, 203}, {1, 9999, 204}};
        for (int h = 0; h < due.length; h++) {
            for (int what = 0; what < 3; what++) {
                Check.due("house(1, " + h + ", " + what + ")", x.house(1, h, what), due[h][what]);
            }
        }
        Check.due("the other STREET has none", x.houses(0), 0);
        for (int h = 4; h < 12; h++) {
            Check.due("house " + h, x.build(1, 0, 99 * h), 2 * h + 1);
        }
        Check.due("twelve", x.houses(1), 12);
        Check.due("a 13th", x.build(1, 0, 2000), -1);
        Check.due("the other STREET has room", x.build(0, 0, 2000), 41);
        Check.due("one is torn down", x.tear(1, 0), 11);
        Check.due("then a 12th", x.build(1, 0, 2000), 41);
    }

    /** A STREET with twelve HOUSES. */
    private static StreetNames full() {
        StringBuilder text = new StringBuilder("street a;");
        for (int i = 0; i < 12; i++) {
            text.append("house a left ").append(10 * i).append(' ').append(2 * i + 1).append(';');
        }
        return Check.of(text.toString());
    }

    private static void buildRefused() {
        Check.sentence("Promise 36", "NONE, refused (2), when there is none such, 12 are there, one stands at these yards"
            + " of that side, or there is no such STREET, side, yards");
        for (int s : new int[] {-1, 2, LEAST, MOST}) {
            refused("build(" + s + ", 0, 50)", Twins::lived, x -> x.build(s, 0, 50));
        }
        for (int side : new int[] {-1, 2, LEAST, MOST}) {
            refused("build(0, " + side + ", 50)", Twins::lived, x -> x.build(0, side, 50));
        }
        for (int yards : new int[] {-1, 10000, LEAST, MOST}) {
            refused("build(0, 0, " + yards + ")", () -> Check.of("step 99;street a;"), x -> x.build(0, 0, yards));
        }
        refused("one stands there, left", Twins::lived, x -> x.build(0, 0, 0));
        refused("one stands there, right", Twins::lived, x -> x.build(0, 1, 5));
        refused("12 are there, left", EdgesOfActsTest::full, x -> x.build(0, 0, 500));
        refused("12 are there, right", EdgesOfActsTest::full, x -> x.build(0, 1, 500));
        refused("LOW above 999", Twins::lived, x -> x.build(0, 0, 5000));
        refused("no number between", () -> Check.of("street a;house a left 0 1;house a left 9 3;"), x -> x.build(0, 0, 5));
        refused("none above 999", () -> Check.of("street a;house a left 0 999;"), x -> x.build(0, 0, 5));
        refused("nothing told", StreetNames::new, x -> x.build(0, 0, 0));
        Check.due("one on the other side is none", Twins.lived().build(0, 1, 0), 2);
    }

    private static void tear() {
        Check.sentence("Promise 37", "House h of a STREET is torn down: how many are left");
        StreetNames x = full();
        Check.due("the last of 12", x.tear(0, 11), 11);
        Check.due("the first of 11", x.tear(0, 0), 10);
        Check.due("now the first", x.house(0, 0, 1), 10);
        Check.due("now the last", x.house(0, 9, 1), 100);
        for (int left = 9; left >= 0; left--) {
            Check.due("one more", x.tear(0, 0), left);
        }
        Check.due("of none", x.tear(0, 0), -1);
        Check.due("its yards are free", x.build(0, 0, 0), 1);
        x = Check.of("street a;street b;house a left 0 1;house b left 0 3;house b left 1 5;");
        Check.due("of the first STREET", x.tear(0, 0), 0);
        Check.due("the other stays", x.houses(1), 2);
        Check.due("the other's number", x.house(1, 0, 2), 3);
        x = Check.of("street a;house a left 0 1;house a right 7 4;house a left 3 5;house a right 2 8;");
        x.tear(0, 0);
        int[][] due = {{1, 7, 4}, {0, 3, 5}, {1, 2, 8}};
        for (int h = 0; h < 3; h++) {
            for (int what = 0; what < 3; what++) {
                Check.due("house(0, " + h + ", " + what + ")", x.house(0, h, what), due[h][what]);
            }
        }
        tearOfTenStreets();
    }

    /** Ten STREETS of twelve HOUSES: the last of the last, the first of each. */
    private static void tearOfTenStreets() {
        StreetNames x = Check.of("street a;street b;street c;street d;street e;street f;street g;street h;street i;"
            + "street j;");
        for (int i = 0; i < 120; i++) {
            x.build(i / 12, i % 2, 10 * i);
        }
        Check.due("the last of the last", x.tear(9, 11), 11);
        for (int s = 0; s < 10; s++) {
            Check.due("the first of " + s, x.tear(s, 0), s == 9 ? 10 : 11);
        }
        for (int i = 0; i < 109; i++) {
            int was = 12 * (i / 11) + i % 11 + 1;
            Check.due("side of " + was, x.house(i / 11, i % 11, 0), was % 2);
            Check.due("yards of " + was, x.house(i / 11, i % 11, 1), 10 * was);
            Check.due("number of " + was, x.house(i / 11, i % 11, 2), 2 * was + 1 + was % 2);
        }
    }

    private static void tearRefused() {
        Check.sentence("Promise 37", "NONE, refused (2), when there is none such");
        for (int wrong : new int[] {-1, 2, LEAST, MOST}) {
            refused("tear(0, " + wrong + ")", Twins::lived, x -> x.tear(0, wrong));
            refused("tear(" + wrong + ", 0)", Twins::lived, x -> x.tear(wrong, 0));
        }
        refused("no HOUSES", Twins::lived, x -> x.tear(1, 0));
        refused("a 13th", EdgesOfActsTest::full, x -> x.tear(0, 12));
        refused("that of the next STREET", () -> Check.of("street a;street b;house b left 0 1;"), x -> x.tear(0, 0));
        refused("nothing told", StreetNames::new, x -> x.tear(0, 0));
    }

    /** An object in a YEAR. */
    private static StreetNames inYear(int year) {
        StreetNames x = Check.of("street oak;");
        for (int left = year; left > 0; left -= Math.min(left, 99)) {
            x.years(Math.min(left, 99));
        }
        return x;
    }

    private static void years() {
        Check.sentence("Promise 38", "So many YEARS (1 .. 99) pass: the YEAR");
        Check.due("1", inYear(0).years(1), 1);
        Check.due("99", inYear(0).years(99), 99);
        Check.due("99 to 999", inYear(900).years(99), 999);
        Check.due("1 to 999", inYear(998).years(1), 999);
        Check.due("it stays", inYear(999).has(4), 999);
        Check.due("nothing told", new StreetNames().years(99), 99);
    }

    private static void yearsRefused() {
        Check.sentence("Promise 38", "NONE, refused (2), when it can't be, or it would be above 999");
        for (int n : new int[] {0, -1, 100, LEAST, MOST}) {
            refused("years(" + n + ")", Twins::lived, x -> x.years(n));
            refused("years(" + n + ") in 999", () -> inYear(999), x -> x.years(n));
        }
        refused("1000 by 1", () -> inYear(999), x -> x.years(1));
        refused("1000 by 99", () -> inYear(901), x -> x.years(99));
        refused("1098 by 99", () -> inYear(999), x -> x.years(99));
    }

    private static void undo() {
        Check.sentence("Promise 39", "The latest ACT is undone: true");
        StreetNames x = Check.of("street oak;");
        Consumer<StreetNames> some = y -> {
            y.build(0, 0, 10);
            y.years(5);
            y.build(0, 0, 20);
            y.years(6);
        };
        some.accept(x);
        Check.due("the latest", x.undo(), true);
        Check.due("the YEAR", x.has(4), 5);
        Check.due("HOUSES", x.has(3), 2);
        Check.due("the next", x.undo(), true);
        Check.due("HOUSES", x.has(3), 1);
        Check.due("an ACT between", x.years(7), 12);
        Check.due("it is the latest", x.undo(), true);
        Check.due("the YEAR", x.has(4), 5);
        Check.due("the next", x.undo(), true);
        Check.due("the YEAR", x.has(4), 0);
        Check.due("the first", x.undo(), true);
        Check.due("HOUSES", x.has(3), 0);
        Check.due("no more", x.undo(), false);
    }

    private static void undoRefused() {
        Check.sentence("Promise 39", "false, refused (3), when none can be");
        Twins.refusedFlag("nothing told", StreetNames::new, x -> x.undo(), UNDO);
        Twins.refusedFlag("all undone", () -> {
            StreetNames x = Twins.lived();
            x.undo();
            x.undo();
            return x;
        }, x -> x.undo(), UNDO);
        Twins.refusedFlag("behind town()", () -> {
            StreetNames x = inYear(9);
            Check.town(x, "street oak;");
            return x;
        }, x -> x.undo(), UNDO);
        Twins.refusedFlag("behind back()", () -> {
            StreetNames x = Twins.lived();
            x.back(1);
            return x;
        }, x -> x.undo(), UNDO);
    }
}
