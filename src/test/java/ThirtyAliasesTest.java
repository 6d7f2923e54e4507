import java.lang.reflect.Field;
import java.lang.reflect.Method;

/**
 * "30 at most are there" (Term II, promises 19, 20, 33, 34). No run of calls comes to more than 24 ALIASES (34 NAMES are
 * told, all unlike, 10 of them STREETS have), so this test alone puts ALIASES into the object by hand: it knows the
 * field now, and addAlias() of its class, and must go along when these do.
 */
public final class ThirtyAliasesTest {
    private static final int LETTER_BITS = 5;
    private static final int ACT = 2;
    private static final String OAK = "near 0;street oak;street elm;pool bay yew;";

    public static void main(String[] args) {
        whyAndTake();
        whyFirst();
        takes();
        takeRefused();
        carryOne();
        carryTwo();
        carryNone();
        carryOwnAlias();
        Check.finish("ThirtyAliasesTest");
    }

    private static long number(String name) {
        long word = 0L;
        for (int i = name.length() - 1; i >= 0; i--) {
            word = word << LETTER_BITS | name.charAt(i) - 'a' + 1;
        }
        return word;
    }

    /** One more ALIAS of a STREET; its NAME is its KEY. */
    private static void add(StreetNames x, String name, int street, int lastYear) {
        try {
            Field field = StreetNames.class.getDeclaredField("now");
            field.setAccessible(true);
            Object town = field.get(x);
            Method add = town.getClass().getDeclaredMethod("addAlias", long.class, long.class, int.class, int.class);
            add.setAccessible(true);
            add.invoke(town, number(name), number(name), street, lastYear);
        } catch (ReflectiveOperationException e) {
            Check.due("an ALIAS put in by hand: " + e, 1, 0);
        }
    }

    /** The town of a text with so many ALIASES, those that are put in of STREET 0 and LIVE up to 9. */
    private static StreetNames with(String text, int aliases) {
        StreetNames x = Check.of(text);
        for (int i = x.has(2); i < aliases; i++) {
            add(x, "q" + (char) ('a' + i / 10) + "z" + (char) ('a' + i % 10), 0, 9);
        }
        Check.due("ALIASES put in", x.has(2), aliases);
        return x;
    }

    private static void whyAndTake() {
        Check.sentence("Term II", "CAN TAKE, if 4 there are fewer than 30 ALIASES");
        for (int s = 0; s < 2; s++) {
            Check.due("29: why", with(OAK, 29).why(s, 0), 0);
            Check.due("30: why", with(OAK, 30).why(s, 0), 4);
        }
        Check.sentence("Promise 33", "how many ALIASES there are; NONE, refused (2), when it can't");
        StreetNames x = with(OAK, 29);
        Check.due("29: take", x.take(1, 1), 30);
        Check.same("the latest", Check.name(x, 2, 29), "elm");
        Check.due("30: take", x.take(0, 0), -1);
        Check.due("refused", x.status(ACT), 1);
        Check.due("30 stay", x.has(2), 30);
        Check.due("undo", x.undo(), true);
        Check.due("29 again", x.why(0, 0), 0);
        Check.due("29: take", x.take(0, 0), 30);
        x.years(9);
        Check.due("LIVE in 9", x.why(0, 1), 4);
        x.years(1);
        Check.due("those that were put in are gone in 10", x.has(2), 1);
        Check.due("room again", x.take(0, 1), 2);
    }

    private static void whyFirst() {
        Check.sentence("Promise 19", "1 .. 4 (of these the first that is not so tells why)");
        StreetNames x = with("near 1;street oak;street elm;pool oar qaza bay;", 30);
        Check.due("2 ahead of 4", x.why(1, 0), 2);
        Check.due("3 ahead of 4", x.why(1, 1), 3);
        Check.due("4 alone", x.why(1, 2), 4);
        Check.due("4, ALIKE to its own NAME", x.why(0, 0), 4);
        Check.due("4, just its own ALIAS", x.why(0, 1), 4);
        x = with("near 1;street oak;street elm;pool bay;", 29);
        x.take(0, 0);
        Check.due("1 ahead of 4", x.why(0, 0), 1);
        Check.due("1 ahead of 2 and 4", x.why(1, 0), 1);
    }

    private static void takes() {
        Check.sentence("Promise 20", "How many NAMES of the POOL a STREET can TAKE");
        Check.due("29", with(OAK, 29).takes(0, -1), 2);
        Check.due("29: 1", with(OAK, 29).takes(0, 1), 1);
        Check.due("30", with(OAK, 30).takes(0, -1), 0);
        Check.due("30: 0", with(OAK, 30).takes(0, 0), -1);
    }

    private static void takeRefused() {
        Check.sentence("Promise 33", "NONE, refused (2): nothing else changes");
        Twins.refused("30: take(0, 0)", () -> with(OAK, 30), x -> x.take(0, 0), ACT);
        Twins.refused("30: its own ALIAS", () -> with("near 0;street oak;pool qaza;", 30), x -> x.take(0, 0), ACT);
    }

    private static void carryOne() {
        Check.sentence("Promise 34", "NONE, refused (2), when there would be more than 30 ALIASES behind it");
        String one = "street ab;street ac;pool xyw;";
        StreetNames x = with(one, 29);
        Check.due("29 and one", x.carry(), 1);
        Check.due("30", x.has(2), 30);
        x = with(one, 30);
        Check.due("30: there is a PLAN", x.plan(0), 1);
        Check.due("30: it gets a NAME", x.planned(0), 0);
        Twins.refused("30 and one", () -> with(one, 30), y -> y.carry(), ACT);
    }

    private static void carryTwo() {
        String two = "street ab;street ac;street uv;street uw;pool xyxy mnmn;";
        StreetNames x = with(two, 28);
        Check.due("28 and two", x.carry(), 2);
        Check.due("30", x.has(2), 30);
        Twins.refused("29 and two", () -> with(two, 29), y -> y.carry(), ACT);
    }

    private static void carryNone() {
        Check.sentence("Promise 34", "how many were renamed (0: there are no CLASHES)");
        StreetNames x = with("street ab;street cd;pool xyw;", 30);
        Check.due("30 and none", x.carry(), 0);
        Check.due("an ACT", x.has(11), 1);
        Check.due("30", x.has(2), 30);
    }

    private static void carryOwnAlias() {
        Check.sentence("Promise 34", "each TAKES its NAME: a LIVE ALIAS of it that is just the new NAME goes");
        StreetNames x = Check.of("street ab;street ac;pool xyw;");
        add(x, "xyw", 0, 9);
        for (int i = 1; i < 30; i++) {
            add(x, "q" + (char) ('a' + i / 10) + "z" + (char) ('a' + i % 10), 0, 9);
        }
        Check.due("30", x.has(2), 30);
        Check.due("30, one of which goes", x.carry(), 1);
        Check.due("30 again", x.has(2), 30);
        Check.same("the latest", Check.name(x, 2, 29), "ab");
        Check.same("the first", Check.name(x, 2, 0), "qazb");
    }
}
