/** Promises 17 to 23: CLASHES, CIRCLES, what can be TAKEN, THE PLAN. */
public final class ClashesTest {
    public static void main(String[] args) {
        clashes();
        circles();
        why();
        manyAliases();
        takes();
        plan();
        planByHousesAndBits();
        planNeedsMore();
        planWithout();
        planOfTen();
        least();
        Check.finish("ClashesTest");
    }

    private static void clashes() {
        StreetNames x = Check.of("street aaa;street xyz;street aab;street abb;street xyy;");
        Check.due("clash(-1)", x.clash(-1), 3);
        // aaa and aab, xyz and xyy by letters, aab and abb by sound
        Check.due("clash(0)", x.clash(0), 2);
        Check.due("clash(1)", x.clash(1), 104);
        Check.due("clash(2)", x.clash(2), 203);
        Check.due("clash(3)", x.clash(3), -1);
        Check.due("clash(-2)", x.clash(-2), -1);
        Check.due("clash(least)", x.clash(Integer.MIN_VALUE), -1);
        Check.due("none", new StreetNames().clash(-1), 0);
    }

    private static void circles() {
        StreetNames x = Check.of("street aaaa;street xyz;street aabb;street aaab;street xyy;street abbb;");
        Check.due("a chain", x.circle(0), 0b101101);
        Check.due("from its end", x.circle(5), 0b101101);
        Check.due("another", x.circle(4), 0b010010);
        Check.due("none such", x.circle(6), -1);
        Check.due("below", x.circle(-1), -1);
        x = Check.of("street oak;street elm;");
        Check.due("alone", x.circle(1), 2);
    }

    private static void why() {
        StreetNames x = Check.of("near 1;street mill;street oak;street elm;alias rose of mill;pool till rosa bay bat;");
        Check.due("alike to its own", x.why(0, 0), 0);
        Check.due("alike to another's", x.why(1, 0), 2);
        Check.due("alike to its own alias", x.why(0, 1), 0);
        Check.due("alike to another's alias", x.why(1, 1), 3);
        Check.due("free", x.why(1, 2), 0);
        Check.due("no street", x.why(3, 0), -1);
        Check.due("no street", x.why(-1, 0), -1);
        Check.due("no name", x.why(0, 4), -1);
        Check.due("no name", x.why(0, -1), -1);
        x.take(1, 2);
        Check.due("a street has it", x.why(0, 2), 1);
        Check.due("it has it itself", x.why(1, 2), 1);
        Check.due("alike to a new name", x.why(0, 3), 2);
        Check.due("to its own new name", x.why(1, 3), 0);
        x.take(1, 3);
        Check.due("an alias of its own", x.why(1, 2), 0);
        x.years(10);
        Check.due("live yet", x.why(1, 1), 3);
        x.years(1);
        Check.due("live no more", x.why(1, 1), 0);
    }

    /**
     * No two NAMES that are there are just the same, so 34 told ones less those that STREETS have are the most:
     * of 10 STREETS, 12 of the POOL and 12 ALIASES at most 24 are ALIASES at once, and 30 is never reached.
     */
    private static void manyAliases() {
        StringBuilder text = new StringBuilder("near 0;last 99;");
        for (int s = 0; s < 10; s++) {
            text.append("street s").append((char) ('a' + s)).append(';');
        }
        for (int i = 0; i < 12; i++) {
            text.append("alias q").append((char) ('a' + i)).append(" of sa;");
        }
        text.append("pool pa pb pc pd pe pf pg ph pi pj pk pl;");
        StreetNames x = Check.of(text.toString());
        int due = 12;
        for (int s = 0; s < 9; s++) {
            due++;
            Check.due("street " + s, x.take(s, s), due);
        }
        for (int k = 9; k < 12; k++) {
            due++;
            Check.due("street 0 takes " + k, x.take(0, k), due);
        }
        Check.due("aliases", x.has(2), 24);
        Check.due("its own alias is no hindrance", x.why(0, 0), 0);
        Check.due("another's is one", x.why(1, 0), 3);
        Check.due("its own alias goes", x.take(0, 0), 24);
        Check.same("the latest", Check.name(x, 2, 23), "pl");
        Check.due("not refused", x.status(2), 0);
    }

    private static void takes() {
        StreetNames x = Check.of("near 1;street mill;street oak;street elm;alias rose of mill;pool till rosa bay bat;");
        Check.due("many", x.takes(1, -1), 2);
        Check.due("first", x.takes(1, 0), 2);
        Check.due("second", x.takes(1, 1), 3);
        Check.due("none such", x.takes(1, 2), -1);
        Check.due("all", x.takes(0, -1), 4);
        Check.due("below", x.takes(0, -2), -1);
        Check.due("no street", x.takes(3, -1), -1);
        Check.due("no street", x.takes(-1, 0), -1);
        x = Check.of("street oak;");
        Check.due("no pool", x.takes(0, -1), 0);
        Check.due("no pool", x.takes(0, 0), -1);
    }

    private static void isPlan(String what, StreetNames x, int bits, int houses, int... names) {
        Check.due(what + ": streets", x.plan(0), bits < 0 ? -1 : Integer.bitCount(bits));
        Check.due(what + ": houses", x.plan(1), houses);
        Check.due(what + ": bits", x.plan(2), bits);
        Check.due(what + ": others", x.plan(3), -1);
        Check.due(what + ": others", x.plan(-1), -1);
        for (int s = 0; s < names.length; s++) {
            Check.due(what + ": street " + s, x.planned(s), names[s]);
        }
        Check.due(what + ": no such street", x.planned(names.length), -1);
        Check.due(what + ": no such street", x.planned(-1), -1);
    }

    private static void plan() {
        StreetNames x = Check.of("street oak;street elm;pool bay;");
        isPlan("no clashes", x, 0, 0, -1, -1);
        x = Check.of("street mill;street milk;pool bay yew;");
        isPlan("two", x, 1, 0, 0, -1);
        x = Check.of("street mill;street milk;street till;pool bay yew;");
        isPlan("the middle one", x, 1, 0, 0, -1, -1);
        x = Check.of("street milk;street mill;street till;pool bay yew;");
        isPlan("the middle one, behind", x, 2, 0, -1, 0, -1);
        x = Check.of("street mill;street milk;street bay;pool bat say way yew;");
        isPlan("not alike to one that stays", x, 1, 0, 3, -1, -1);
        x = Check.of("street mill;street milk;pool milt bay;");
        isPlan("not alike to the one that stays", x, 1, 0, 1, -1);
        x = Check.of("street mill;street milk;street oak;alias bay of oak;pool bat yew;");
        isPlan("not alike to an alias of another", x, 1, 0, 1, -1, -1);
        x = Check.of("street mill;street milk;street oak;alias bay of milk;pool bat;");
        isPlan("its own alias", x, 2, 0, -1, 0, -1);
    }

    private static void planByHousesAndBits() {
        StreetNames x = Check.of("street mill;street milk;pool bay yew;house mill left 0 1;house mill right 0 2;"
            + "house milk left 0 1;");
        isPlan("fewer houses", x, 2, 1, -1, 0);
        x.build(1, 0, 50);
        isPlan("like many: least bits", x, 1, 2, 0, -1);
        x.build(0, 0, 50);
        isPlan("one more", x, 2, 2, -1, 0);
        x.undo();
        isPlan("as it was", x, 1, 2, 0, -1);
        x = Check.of("street aab;street aac;street xxy;street xxz;house aab left 0 1;house xxz left 0 1;pool bay yew;");
        isPlan("two pairs", x, 0b0110, 0, -1, 0, 1, -1);
    }

    private static void planNeedsMore() {
        // the middle one can get none of the pool, so both its neighbours must
        StreetNames x = Check.of("near 1;street milk;street mill;street till;alias bay of milk;alias yew of till;pool bat yet;");
        isPlan("both sides", x, 0b101, 0, 0, -1, 1);
        // of two that are alike one can be given
        x = Check.of("street aab;street aac;street xxy;street xxz;pool bay bat;");
        isPlan("alike names of the pool", x, -1, -1, -1, -1, -1, -1);
        x = Check.of("street aab;street aac;street xxy;street xxz;pool bay bat yew;");
        isPlan("the first that go", x, 0b0101, 0, 0, -1, 2, -1);
        // the first name would leave none for the second street
        x = Check.of("street aab;street aac;street xxy;street xxz;house aac left 0 1;house xxz left 0 1;"
            + "alias now of aab;alias row of xxz;alias sow of aac;pool bay wow;");
        isPlan("none may have the second", x, -1, -1, -1, -1, -1, -1);
        x = Check.of("street aab;street aac;street xxy;street xxz;house aac left 0 1;house xxz left 0 1;"
            + "alias now of xxy;pool wow bay;");
        isPlan("crosswise", x, 0b0101, 0, 1, -1, 0, -1);
        // alike to what the other one of them is called now
        x = Check.of("near 1;street aab;street aac;street xxy;street xxz;house aac left 0 1;house xxz left 0 1;"
            + "pool aax bay;");
        isPlan("its own may be alike, if no other's is", x, -1, -1, -1, -1, -1, -1);
        x = Check.of("near 1;street oak;street ook;street elm;street ela;pool elms oakk;");
        isPlan("alike to its own alone", x, 0b0101, 0, 1, -1, 0, -1);
        x = Check.of("near 1;street oak;street ook;street elm;street ela;alias bat of oak;pool oaky bay;");
        isPlan("another one is called so now", x, -1, -1, -1, -1, -1, -1);
        x = Check.of("near 1;street oak;street ook;street elm;street ela;alias bat of oak;pool oaky bay yew;");
        isPlan("another one is called so now, but there is a third", x, 0b0101, 0, 0, -1, 2, -1);
    }

    private static void planWithout() {
        StreetNames x = Check.of("street mill;street milk;");
        isPlan("no pool", x, -1, -1, -1, -1);
        Check.due("least", x.least(), 1);
        Check.due("bill", x.bill(1), -1);
        Check.due("carry", x.carry(), -1);
        Check.due("refused", x.status(2), 1);
        x = Check.of("street mill;street milk;street bay;street elm;pool oak;house bay left 0 1;");
        isPlan("a plan", x, 1, 0, 0, -1, -1, -1);
        Check.due("bay takes oak", x.take(2, 0), 1);
        isPlan("a street has it", x, -1, -1, -1, -1, -1, -1);
        x.undo();
        isPlan("a plan again", x, 1, 0, 0, -1, -1, -1);
        Check.due("elm and mill", x.keep(0), true);
        Check.town(x, "street oak;");
        isPlan("another town", x, 0, 0, -1);
        x.back(0);
        isPlan("the town is back", x, 1, 0, 0, -1, -1, -1);
    }

    private static void planOfTen() {
        StringBuilder text = new StringBuilder("near 1;");
        for (int s = 0; s < 10; s++) {
            text.append("street x").append((char) ('a' + s)).append(';');
        }
        StreetNames x = Check.of(text + "pool aaaa bbbb cccc dddd eeee ffff gggg hhhh iiii jjjj kkkk llll;");
        isPlan("nine of ten", x, 0b0111111111, 0, 0, 1, 2, 3, 4, 5, 6, 7, 8, -1);
        Check.due("least", x.least(), 9);
        Check.due("carry", x.carry(), 9);
        Check.due("no clashes", x.clash(-1), 0);
        x = Check.of(text + "pool aaaa aaab bbbb bbba cccc ccca dddd ddda eeee eeea ffff fffa;");
        isPlan("six that are unlike", x, -1, -1, -1, -1, -1, -1, -1, -1, -1, -1, -1, -1);
        x = Check.of(text + "pool aaaa aaab bbbb cccc dddd eeee ffff gggg hhhh iiii xjjj xkkkk;house xa left 0 1;");
        isPlan("the first has a house", x, 0b1111111110, 0, -1, 0, 2, 3, 4, 5, 6, 7, 8, 9);
    }

    private static void least() {
        Check.due("no streets", new StreetNames().least(), 0);
        Check.due("no clashes", Check.of("street oak;street elm;").least(), 0);
        Check.due("a chain", Check.of("street aaaa;street aaab;street aabb;street abbb;street bbbb;").least(), 2);
        Check.due("a star", Check.of("street mill;street milk;street till;street mall;street mild;pool oak;").least(), 2);
        Check.due("all alike", Check.of("street a;street b;street c;street d;").least(), 3);
        Check.due("a pair", Check.of("street mill;street milk;").least(), 1);
    }
}
