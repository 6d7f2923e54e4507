/** Promises 33 to 39: acts, and that they can be undone. */
public final class ActsTest {
    public static void main(String[] args) {
        take();
        carry();
        carryBehindTake();
        renumber();
        build();
        tear();
        years();
        undo();
        undoEach();
        Check.finish("ActsTest");
    }

    private static void take() {
        StreetNames x = Check.of("last 4;street oak;street elm;alias old of oak;pool bay yew oat;");
        Check.due("oat is alike to oak", x.take(1, 2), -1);
        Check.due("refused", x.status(2), 1);
        Check.due("no act", x.has(11), 0);
        x.years(2);
        Check.due("oak takes bay", x.take(0, 0), 2);
        Check.same("its name", Check.name(x, 0, 0), "bay");
        Check.same("its old name", Check.name(x, 2, 1), "oak");
        Check.same("its old key", Check.key(x, 2, 1), "oak");
        Check.same("its key", Check.key(x, 0, 0), "bay");
        Check.due("of the street", x.alias(1, 0), 0);
        Check.due("up to", x.alias(1, 1), 6);
        Check.due("the pool stays", x.has(1), 3);
        Check.due("oak takes yew", x.take(0, 1), 3);
        Check.due("and bay again", x.take(0, 0), 3);
        Check.same("old", Check.name(x, 2, 0), "old");
        Check.same("oak", Check.name(x, 2, 1), "oak");
        Check.same("yew is the latest", Check.name(x, 2, 2), "yew");
        Check.due("bay is had", x.take(1, 0), -1);
        Check.due("no street", x.take(2, 0), -1);
        Check.due("no street", x.take(-1, 0), -1);
        Check.due("no name", x.take(0, 3), -1);
        Check.due("no name", x.take(0, -1), -1);
        Check.due("refused", x.status(2), 6);
        Check.due("acts", x.has(11), 4);
        takeOwnAlias();
    }

    /** Those behind an ALIAS that goes stay what they were. */
    private static void takeOwnAlias() {
        StreetNames x = Check.of("near 0;last 5;same xy;street oak;street elm;pool bay yew fxy;");
        x.take(0, 0);
        x.years(3);
        x.take(0, 1);
        x.take(1, 2);
        x.years(1);
        x.undo();
        Check.due("oak, bay, elm", x.has(2), 3);
        x.years(3);
        Check.due("oak is gone", x.has(2), 2);
        Check.same("bay", Check.name(x, 2, 0), "bay");
        Check.same("its key", Check.key(x, 2, 0), "bax");
        Check.due("its street", x.alias(0, 0), 0);
        Check.due("its last year", x.alias(0, 1), 8);
        Check.same("elm", Check.name(x, 2, 1), "elm");
        Check.same("its key", Check.key(x, 2, 1), "elm");
        Check.due("its street", x.alias(1, 0), 1);
        Check.due("its last year", x.alias(1, 1), 8);
        Check.due("the first alias goes, the old name comes", x.take(0, 0), 2);
        Check.same("elm", Check.name(x, 2, 0), "elm");
        Check.same("its key", Check.key(x, 2, 0), "elm");
        Check.due("its street", x.alias(0, 0), 1);
        Check.due("its last year", x.alias(0, 1), 8);
        Check.same("yew", Check.name(x, 2, 1), "yew");
        Check.same("its key", Check.key(x, 2, 1), "xew");
        Check.due("its street", x.alias(1, 0), 0);
        Check.due("its last year", x.alias(1, 1), 11);
    }

    private static void carry() {
        StreetNames x = Check.of("last 4;street milk;street mill;street till;street oak;street ook;pool bay yew;"
            + "house milk left 0 1;house oak left 0 1;");
        x.years(1);
        Check.due("carry", x.carry(), 2);
        Check.same("the middle", Check.name(x, 0, 1), "bay");
        Check.same("the second", Check.name(x, 0, 4), "yew");
        Check.due("aliases", x.has(2), 2);
        Check.same("street by street", Check.name(x, 2, 0), "mill");
        Check.same("street by street", Check.name(x, 2, 1), "ook");
        Check.due("street", x.alias(0, 0), 1);
        Check.due("year", x.alias(0, 1), 5);
        Check.due("no clashes", x.clash(-1), 0);
        Check.due("carry nothing", x.carry(), 0);
        Check.due("acts", x.has(11), 3);
        Check.due("undo", x.undo() && x.undo(), true);
        Check.due("clashes again", x.clash(-1), 3);
        Check.same("mill again", Check.name(x, 0, 1), "mill");
        Check.due("no aliases", x.has(2), 0);
        x = Check.of("street milk;street mill;pool milt;");
        Check.due("no plan", x.carry(), -1);
        Check.due("refused", x.status(2), 1);
        Check.due("no act", x.has(11), 0);
    }

    /** What one STREET took ahead of it bears on THE PLAN: its NAME, and its ALIASES while they are LIVE. */
    private static void carryBehindTake() {
        StreetNames x = Check.of("last 2;street mill;street milk;street oak;pool bay bat yew;");
        Check.due("oak takes bay", x.take(2, 0), 1);
        Check.due("bat is alike to it", x.planned(0), 2);
        Check.due("oak takes yew", x.take(2, 2), 2);
        Check.due("bat is alike to its alias", x.plan(0), -1);
        Check.due("no plan", x.carry(), -1);
        x.years(2);
        Check.due("live yet", x.carry(), -1);
        x.years(1);
        Check.due("live no more", x.planned(0), 0);
        Check.due("carry", x.carry(), 1);
        Check.same("the first of the pool", Check.name(x, 0, 0), "bay");
        Check.due("aliases", x.has(2), 1);
        Check.due("up to", x.alias(0, 1), 5);
    }

    private static void renumber() {
        StreetNames x = Check.of("street oak;house oak left 0 11;house oak left 1 3;house oak right 0 1;");
        Check.due("renumber", x.renumber(0), 2);
        Check.due("0", x.house(0, 0, 2), 1);
        Check.due("1", x.house(0, 1, 2), 3);
        Check.due("2", x.house(0, 2, 2), 2);
        Check.due("ordered", x.ordered(0), 1);
        Check.due("nothing to change", x.renumber(0), 0);
        Check.due("acts", x.has(11), 2);
        x.undo();
        x.undo();
        Check.due("0 again", x.house(0, 0, 2), 11);
        Check.due("2 again", x.house(0, 2, 2), 1);
        Check.due("no street", x.renumber(1), -1);
        Check.due("no street", x.renumber(-1), -1);
        Check.due("refused", x.status(2), 2);
    }

    private static void build() {
        StreetNames x = Check.of("street oak;street elm;");
        Check.due("build", x.build(0, 0, 20), 5);
        Check.due("build between", x.build(0, 0, 10), 3);
        Check.due("build right", x.build(0, 1, 10), 4);
        Check.due("houses", x.houses(0), 3);
        Check.due("as built", x.house(0, 1, 1), 10);
        Check.due("its number", x.house(0, 1, 2), 3);
        Check.due("its side", x.house(0, 2, 0), 1);
        Check.due("one stands there", x.build(0, 0, 20), -1);
        Check.due("no room", x.build(0, 0, 11), -1);
        Check.due("no side", x.build(0, 2, 0), -1);
        Check.due("no side", x.build(0, -1, 0), -1);
        Check.due("no yards", x.build(0, 0, -1), -1);
        Check.due("no yards", x.build(0, 0, 10000), -1);
        Check.due("no street", x.build(2, 0, 0), -1);
        Check.due("no street", x.build(-1, 0, 0), -1);
        Check.due("refused", x.status(2), 8);
        Check.due("acts", x.has(11), 3);
        for (int i = 3; i < 12; i++) {
            Check.due("build", x.build(0, 0, 10 * i), 2 * i + 1);
        }
        Check.due("12 are there", x.build(0, 0, 1000), -1);
        Check.due("would not", x.would(0, 0, 1000), -1);
        Check.due("another street", x.build(1, 0, 1000), 201);
        Check.due("all", x.has(3), 13);
    }

    private static void tear() {
        StreetNames x = Check.of("street oak;house oak left 0 1;house oak left 10 3;house oak right 0 2;street elm;"
            + "house elm left 5 7;");
        Check.due("no house", x.tear(0, 3), -1);
        Check.due("no house", x.tear(0, -1), -1);
        Check.due("no street", x.tear(2, 0), -1);
        Check.due("no street", x.tear(-1, 0), -1);
        Check.due("refused", x.status(2), 4);
        Check.due("tear", x.tear(0, 0), 2);
        Check.due("count one less", x.house(0, 0, 1), 10);
        Check.due("its number", x.house(0, 0, 2), 3);
        Check.due("the other side", x.house(0, 1, 0), 1);
        Check.due("gone", x.house(0, 2, 0), -1);
        Check.due("place by yards", x.house(0, 0, 4), 0);
        Check.due("the other street", x.house(1, 0, 2), 7);
        Check.due("all", x.has(3), 3);
        Check.due("tear", x.tear(0, 1), 1);
        Check.due("tear", x.tear(0, 0), 0);
        Check.due("none left", x.tear(0, 0), -1);
        Check.due("built anew", x.build(0, 0, 0), 1);
        tearInFullTown();
    }

    private static void tearInFullTown() {
        StringBuilder text = new StringBuilder("step 99;");
        for (int s = 0; s < 10; s++) {
            text.append("street s").append((char) ('a' + s)).append(';');
        }
        StreetNames x = Check.of(text.toString());
        for (int s = 8; s < 10; s++) {
            for (int h = 0; h < 12; h++) {
                Check.due("build", x.build(s, h % 2, 5 * h), h + 1);
            }
        }
        Check.due("the last of the last", x.tear(9, 11), 11);
        Check.due("the first of the last", x.tear(9, 0), 10);
        Check.due("now the first", x.house(9, 0, 2), 2);
        Check.due("now the last", x.house(9, 9, 2), 11);
        Check.due("the first ahead of it", x.tear(8, 0), 11);
        Check.due("its last", x.house(8, 10, 2), 12);
        Check.due("the next street", x.house(9, 0, 2), 2);
    }

    private static void years() {
        StreetNames x = Check.of("last 5;street oak;street elm;alias yew of oak;pool bay;");
        Check.due("0", x.years(0), -1);
        Check.due("-1", x.years(-1), -1);
        Check.due("100", x.years(100), -1);
        Check.due("most", x.years(Integer.MAX_VALUE), -1);
        Check.due("refused", x.status(2), 4);
        Check.due("5", x.years(5), 5);
        Check.due("live", x.has(2), 1);
        x.take(0, 0);
        Check.due("1", x.years(1), 6);
        Check.due("gone", x.has(2), 1);
        Check.same("oak", Check.name(x, 2, 0), "oak");
        Check.due("undo", x.undo(), true);
        Check.due("there again", x.has(2), 2);
        Check.due("the year", x.has(4), 5);
        for (int i = 1; i <= 10; i++) {
            Check.due("99", x.years(99), 5 + 99 * i);
        }
        Check.due("above 999", x.years(5), -1);
        Check.due("999", x.years(4), 999);
        Check.due("above 999", x.years(1), -1);
        x = Check.of("last 0;street oak;alias yew of oak;");
        Check.due("live in year 0", Check.find(x, "yew"), 200);
        x.years(1);
        Check.due("not in year 1", Check.find(x, "yew"), -1);
    }

    private static void undo() {
        StreetNames x = Check.of("street oak;");
        Check.due("nothing to undo", x.undo(), false);
        Check.due("refused", x.status(3), 1);
        for (int i = 1; i <= 25; i++) {
            Check.due("years", x.years(1), i);
            Check.due("acts", x.has(11), Math.min(i, 20));
        }
        for (int i = 1; i <= 20; i++) {
            Check.due("undo", x.undo(), true);
            Check.due("year", x.has(4), 25 - i);
            Check.due("acts", x.has(11), 20 - i);
        }
        Check.due("the 21st", x.undo(), false);
        Check.due("year", x.has(4), 5);
        Check.due("refused", x.status(3), 2);
        x.years(1);
        x.years(2);
        x.undo();
        Check.due("year", x.has(4), 6);
        x.years(3);
        Check.due("year", x.has(4), 9);
        x.undo();
        x.undo();
        Check.due("year", x.has(4), 5);
        Check.due("refused acts are none", x.years(0), -1);
        Check.due("acts", x.has(11), 0);
    }

    private static void undoEach() {
        StreetNames x = Check.of("street mill;street milk;pool bay;house mill left 0 2;");
        x.take(0, 0);
        x.undo();
        Check.same("take", Check.name(x, 0, 0), "mill");
        Check.same("take, key", Check.key(x, 0, 0), "mil");
        x.carry();
        Check.due("carry, no clashes", x.clash(-1), 0);
        x.undo();
        Check.due("carry undone", x.clash(-1), 1);
        Check.due("carry undone", x.has(2), 0);
        x.renumber(0);
        x.undo();
        Check.due("renumber", x.house(0, 0, 2), 2);
        x.build(0, 1, 0);
        x.undo();
        Check.due("build", x.houses(0), 1);
        x.tear(0, 0);
        x.undo();
        Check.due("tear", x.house(0, 0, 2), 2);
        x.years(9);
        x.undo();
        Check.due("years", x.has(4), 0);
        Check.due("acts", x.has(11), 0);
        Check.due("refused", x.status(2), 0);
    }
}
