/** Term II on CLASHES, CIRCLES, what a STREET CAN TAKE and THE PLAN, and promises 17 to 23, at their edges. */
public final class EdgesOfClashesTest {
    private static final int LEAST = Integer.MIN_VALUE;
    private static final int MOST = Integer.MAX_VALUE;
    /** Each is one CHANGE from the one ahead of it and two or more from all others. */
    private static final String[] CHAIN = {"abcdefghij", "kbcdefghij", "klcdefghij", "klmdefghij", "klmnefghij",
        "klmnofghij", "klmnopghij", "klmnopqhij", "klmnopqrij", "klmnopqrsj"};

    public static void main(String[] args) {
        clashes();
        clashNone();
        circles();
        circleNone();
        whyHas();
        whyStreet();
        whyAlias();
        whyFirst();
        whyNone();
        takes();
        planEmpty();
        planFewestStreets();
        planFewestHouses();
        planLeastBits();
        planFirstNames();
        planSearch();
        planNames();
        planAliases();
        planCalledNow();
        planMost();
        planNone();
        planned();
        least();
        Check.finish("EdgesOfClashesTest");
    }

    private static String streets(String... names) {
        StringBuilder text = new StringBuilder();
        for (String name : names) {
            text.append("street ").append(name).append(';');
        }
        return text.toString();
    }

    private static String houses(String street, int many) {
        StringBuilder text = new StringBuilder();
        for (int i = 0; i < many; i++) {
            text.append("house ").append(street).append(" left ").append(i).append(" 1;");
        }
        return text.toString();
    }

    /** Ten STREETS of two letters that are all ALIKE. */
    private static String tenAlike() {
        return streets("xa", "xb", "xc", "xd", "xe", "xf", "xg", "xh", "xi", "xj");
    }

    private static void clashes() {
        Check.sentence("Promise 17", "CLASHES: how many (k NONE), the k-th, by the lesser STREET, then the greater:"
            + " 100 times the lesser, and the greater");
        StreetNames x = Check.of(tenAlike());
        Check.due("how many of ten", x.clash(-1), 45);
        int k = 0;
        for (int s = 0; s < 10; s++) {
            for (int t = s + 1; t < 10; t++) {
                Check.due("clash(" + k + ")", x.clash(k), 100 * s + t);
                k++;
            }
        }
        Check.due("clash(45)", x.clash(45), -1);
        Check.due("no STREETS", new StreetNames().clash(-1), 0);
        Check.due("one STREET", Check.of("street a;").clash(-1), 0);
        x = Check.of("street a;street b;");
        Check.due("two STREETS", x.clash(-1), 1);
        Check.due("two STREETS: 0", x.clash(0), 1);
        Check.due("two STREETS: 1", x.clash(1), -1);
        Check.sentence("Term II", "A CLASH: two STREETS whose NAMES are ALIKE");
        Check.due("near", Check.of("near 1;street ab;street ac;").clash(-1), 1);
        Check.due("not near", Check.of("near 1;street ab;street cd;").clash(-1), 0);
        Check.due("by sound", Check.of("near 0;street ab;street aabb;").clash(-1), 1);
        Check.due("not with ALIASES and the POOL", Check.of("street ab;alias ac of ab;pool ad;").clash(-1), 0);
    }

    private static void clashNone() {
        Check.sentence("Promise 17", "NONE when there is none such");
        for (int k : new int[] {-2, 1, 2, LEAST, MOST}) {
            Twins.tells("clash(" + k + ")", () -> Check.of("street a;street b;"), x -> x.clash(k), -1);
        }
        Check.due("no STREETS", new StreetNames().clash(0), -1);
        Check.due("no CLASHES", Check.of("street ab;street cd;").clash(0), -1);
    }

    private static void circles() {
        Check.sentence("Term II", "A CIRCLE: STREETS that hang together by CLASHES");
        String[] mixed = {CHAIN[9], CHAIN[4], CHAIN[8], CHAIN[3], CHAIN[7], CHAIN[2], CHAIN[6], CHAIN[1], CHAIN[5],
            CHAIN[0]};
        StreetNames x = Check.of(streets(CHAIN));
        StreetNames y = Check.of(streets(mixed));
        Check.due("nine CLASHES", x.clash(-1), 9);
        Check.due("nine CLASHES, mixed", y.clash(-1), 9);
        for (int s = 0; s < 10; s++) {
            Check.due("a chain of ten, from " + s, x.circle(s), 1023);
            Check.due("mixed, from " + s, y.circle(s), 1023);
        }
        String[] cut = CHAIN.clone();
        cut[5] = "zzz";
        x = Check.of(streets(cut));
        Check.due("cut in two", x.circle(0), 0b0000011111);
        Check.due("cut in two, behind", x.circle(9), 0b1111000000);
        Check.sentence("Promise 18", "The CIRCLE of a STREET, as bits (itself, too)");
        Check.due("alone", x.circle(5), 0b0000100000);
        Check.due("the only one", Check.of("street a;").circle(0), 1);
        Check.due("the last of ten alone", Check.of(streets("a", "b", "c", "d", "e", "f", "g", "h", "i", "xyz")).circle(9),
            1 << 9);
    }

    private static void circleNone() {
        Check.sentence("Promise 18", "NONE when there is none such");
        for (int s : new int[] {-1, 2, LEAST, MOST}) {
            Twins.tells("circle(" + s + ")", () -> Check.of("street a;street b;"), x -> x.circle(s), -1);
        }
        Check.due("no STREETS", new StreetNames().circle(0), -1);
        Check.due("an 11th of ten", Check.of(tenAlike()).circle(10), -1);
    }

    private static void whyHas() {
        Check.sentence("Term II", "CAN TAKE, if 1 no STREET has it as its NAME");
        StreetNames x = Check.of("street oak;street elm;pool bay;");
        Check.due("none has it", x.why(0, 0), 0);
        x.take(1, 0);
        Check.due("another has it", x.why(0, 0), 1);
        Check.due("it has it itself", x.why(1, 0), 1);
        x.undo();
        Check.due("none has it again", x.why(0, 0), 0);
    }

    private static void whyStreet() {
        Check.sentence("Term II", "CAN TAKE, if 2 it is not ALIKE to the NAME of another STREET");
        String[] pool = {"abcdefghix", "abcdefghyx", "abcdefgzyx", "abcdefwzyx"};
        for (int near = 0; near <= 3; near++) {
            StreetNames x = Check.of("near " + near + ";street abcdefghij;street kkkk;pool " + String.join(" ", pool) + ";");
            for (int k = 0; k < 4; k++) {
                Check.due(k + 1 + " CHANGES by near " + near, x.why(1, k), k + 1 <= near ? 2 : 0);
                Check.due(k + 1 + " CHANGES to its own by near " + near, x.why(0, k), 0);
            }
        }
        StreetNames x = Check.of("near 0;street aab;street kkkk;pool ab;");
        Check.due("by sound", x.why(1, 0), 2);
        Check.due("by sound to its own", x.why(0, 0), 0);
        x = Check.of("near 0;" + streets("a", "b", "c", "d", "e", "f", "g", "h", "i", "jj") + "pool jjj;");
        Check.due("the last STREET's", x.why(0, 0), 2);
        Check.due("it itself", x.why(9, 0), 0);
    }

    private static void whyAlias() {
        Check.sentence("Term II", "CAN TAKE, if 3 not to a LIVE ALIAS of another STREET");
        StreetNames x = Check.of("near 1;last 2;street oak;street elm;alias yew of oak;pool yes yeti;");
        Check.due("1 CHANGE to another's", x.why(1, 0), 3);
        Check.due("1 CHANGE to its own", x.why(0, 0), 0);
        Check.due("2 CHANGES", x.why(1, 1), 0);
        x.years(2);
        Check.due("in its last YEAR", x.why(1, 0), 3);
        x.years(1);
        Check.due("behind it", x.why(1, 0), 0);
        x = Check.of("near 0;street oak;street elm;alias yyew of oak;pool yew;");
        Check.due("by sound", x.why(1, 0), 3);
        Check.due("by sound to its own", x.why(0, 0), 0);
    }

    private static void whyFirst() {
        Check.sentence("Term II", "of these the first that is not so tells why");
        StreetNames x = Check.of("near 1;last 9;street oak;street elm;street fir;alias bat of fir;pool bay bar;");
        Check.due("3 alone", x.why(0, 0), 3);
        x.take(2, 0);
        Check.due("1 ahead of 2 and 3", x.why(0, 0), 1);
        Check.due("2 ahead of 3", x.why(0, 1), 2);
        Check.due("its own all", x.why(2, 1), 0);
    }

    private static void whyNone() {
        Check.sentence("Promise 19", "NONE when there are none such");
        for (int wrong : new int[] {-1, 2, LEAST, MOST}) {
            Twins.tells("why(" + wrong + ", 0)", Twins::lived, x -> x.why(wrong, 0), -1);
            Twins.tells("why(0, " + wrong + ")", Twins::lived, x -> x.why(0, wrong), -1);
        }
        Check.due("no STREETS", Check.of("pool a;").why(0, 0), -1);
        Check.due("no POOL", Check.of("street a;").why(0, 0), -1);
        StreetNames x = Check.of("near 0;" + tenAlike() + "pool a b c d e f g h i j k l;");
        Check.due("the last of both", x.why(9, 11), 0);
        Check.due("an 11th STREET", x.why(10, 0), -1);
        Check.due("a 13th of the POOL", x.why(0, 12), -1);
        Twins.tells("why(0, 1)", Twins::lived, y -> y.why(0, 1), 0);
    }

    private static void takes() {
        Check.sentence("Promise 20", "How many NAMES of the POOL a STREET can TAKE (k NONE), the number in the POOL of"
            + " the k-th of these");
        StreetNames x = Check.of("near 0;street aa;street bb;pool a b c d e f g h i j k l;");
        Check.due("12 but that of its own sound", x.takes(0, -1), 11);
        for (int k = 0; k < 11; k++) {
            Check.due("takes(0, " + k + ")", x.takes(0, k), k == 0 ? 0 : k + 1);
        }
        Check.due("takes(0, 11)", x.takes(0, 11), -1);
        x = Check.of("near 0;street zz;pool a b c d e f g h i j k l;");
        Check.due("all of 12", x.takes(0, -1), 12);
        Check.due("the last of 12", x.takes(0, 11), 11);
        Check.due("a 13th", x.takes(0, 12), -1);
        x = Check.of("near 0;street zz;street a;pool aa;");
        Check.due("none", x.takes(0, -1), 0);
        Check.due("none: 0", x.takes(0, 0), -1);
        Check.due("no POOL", Check.of("street a;").takes(0, -1), 0);
        Check.sentence("Promise 20", "NONE when there is none such");
        for (int wrong : new int[] {-1, 2, LEAST, MOST}) {
            Twins.tells("takes(" + wrong + ", -1)", Twins::lived, y -> y.takes(wrong, -1), -1);
            Twins.tells("takes(" + wrong + ", 0)", Twins::lived, y -> y.takes(wrong, 0), -1);
        }
        for (int k : new int[] {-2, 2, LEAST, MOST}) {
            Twins.tells("takes(0, " + k + ")", Twins::lived, y -> y.takes(0, k), -1);
        }
        Check.due("no STREETS", Check.of("pool a;").takes(0, -1), -1);
    }

    private static void isPlan(String what, StreetNames x, int bits, int houses, int... names) {
        Check.due(what + ": streets", x.plan(0), bits < 0 ? -1 : Integer.bitCount(bits));
        Check.due(what + ": houses", x.plan(1), houses);
        Check.due(what + ": bits", x.plan(2), bits);
        for (int s = 0; s < names.length; s++) {
            Check.due(what + ": street " + s, x.planned(s), names[s]);
        }
    }

    private static void planEmpty() {
        Check.sentence("Term II", "THE PLAN: some STREETS get NAMES, so that then there are no CLASHES: the fewest");
        isPlan("no STREETS", new StreetNames(), 0, 0, -1);
        isPlan("no STREETS, a POOL", Check.of("pool a;"), 0, 0, -1);
        isPlan("one STREET", Check.of("street a;pool zzz;" + houses("a", 3)), 0, 0, -1);
        isPlan("no CLASHES", Check.of("street ab;street cd;pool zzz;"), 0, 0, -1, -1);
        isPlan("no CLASHES, no POOL", Check.of("street ab;street cd;"), 0, 0, -1, -1);
        isPlan("a CLASH with an ALIAS alone", Check.of("street ab;street cd;alias ce of ab;pool zzz;"), 0, 0, -1, -1);
    }

    private static void planFewestStreets() {
        Check.sentence("Term II", "THE PLAN: the fewest STREETS");
        // mill clashes with both others, which do not clash; it has all the HOUSES
        StreetNames x = Check.of(streets("milk", "mill", "till") + houses("mill", 12) + "pool oak elm;");
        isPlan("one of 12 HOUSES ahead of two of none", x, 2, 12, -1, 0, -1);
        x = Check.of(streets("milk", "till", "mill") + houses("mill", 12) + "pool oak elm;");
        isPlan("one of 12 HOUSES and more bits ahead of two of none", x, 4, 12, -1, -1, 0);
        x = Check.of(streets("mill", "milk", "till") + houses("mill", 12) + "pool oak elm;");
        isPlan("one of 12 HOUSES and fewer bits ahead of two of none", x, 1, 12, 0, -1, -1);
        x = Check.of(streets("milk", "mill", "till") + "alias oat of milk;alias ells of till;" + houses("mill", 1)
            + "pool oak ella;");
        isPlan("two, where the one can get none", x, 5, 0, 0, -1, 1);
    }

    private static void planFewestHouses() {
        Check.sentence("Term II", "THE PLAN: of such the fewest HOUSES of these together");
        StreetNames x = Check.of("street mill;street milk;pool oak;" + houses("mill", 1));
        isPlan("1 and 0", x, 2, 0, -1, 0);
        x = Check.of("street mill;street milk;pool oak;" + houses("mill", 12) + houses("milk", 11));
        isPlan("12 and 11", x, 2, 11, -1, 0);
        x = Check.of("street mill;street milk;pool oak;" + houses("mill", 11) + houses("milk", 12));
        isPlan("11 and 12", x, 1, 11, 0, -1);
        String four = streets("abcd", "kbcd", "klcd", "klmd") + "pool oooooo pppppp;";
        x = Check.of(four + houses("kbcd", 1) + houses("klcd", 1) + houses("klmd", 3));
        isPlan("a chain: 0 and 1 ahead of 1 and 1", x, 0b0101, 1, 0, -1, 1, -1);
        x = Check.of(four + houses("abcd", 5) + houses("kbcd", 1) + houses("klcd", 4) + houses("klmd", 2));
        isPlan("a chain: 1 and 2 ahead of 1 and 4", x, 0b1010, 3, -1, 0, -1, 1);
    }

    private static void planLeastBits() {
        Check.sentence("Term II", "THE PLAN: of such the STREETS of least bits");
        StreetNames x = Check.of("street mill;street milk;pool oak;" + houses("mill", 12) + houses("milk", 12));
        isPlan("like many HOUSES", x, 1, 12, 0, -1);
        // either 0 and 3 or 1 and 2: 6 is less than 9, though 0 comes ahead of 1
        x = Check.of(streets("pq", "xq", "py", "xy") + "pool mmmm nnnn;");
        isPlan("6, not 9", x, 6, 0, -1, 0, 1, -1);
        x = Check.of(streets("pq", "xq", "py", "xy") + "pool mmmm nnnn;" + houses("xq", 1) + houses("xy", 1));
        isPlan("6, not 9, with as many HOUSES", x, 6, 1, -1, 0, 1, -1);
        x = Check.of(streets("pq", "xq", "py", "xy") + "pool mmmm nnnn;" + houses("xq", 2) + houses("xy", 1));
        isPlan("9, with fewer HOUSES", x, 9, 1, 0, -1, -1, 1);
    }

    private static void planFirstNames() {
        Check.sentence("Term II", "THE PLAN: of such the first NAMES of the POOL, STREET by STREET");
        String two = streets("aab", "aac", "xxy", "xxz");
        isPlan("0 and 1", Check.of(two + "pool mmmm nnnn oooo;"), 5, 0, 0, -1, 1, -1);
        // the last NAME alone is not ALIKE to another's ALIAS
        isPlan("the last of 12", Check.of("street aab;street aac;street zzz;alias gggg of zzz;pool gggh gggi gggj gggk gggl"
            + " gggm gggn gggo gggp gggq gggr oooo;" + houses("aac", 1)), 1, 0, 11, -1, -1);
        isPlan("the first goes to the second STREET", Check.of(two + "alias mmmx of xxy;pool mmmm nnnn;"
            + houses("aac", 1) + houses("xxz", 1)), 5, 0, 1, -1, 0, -1);
        // were the first STREET given the first NAME, none would be left for the second
        isPlan("the first STREET must leave the first", Check.of(two + "alias nnnx of aab;pool mmmm nnnn;"
            + houses("aac", 1) + houses("xxz", 1)), 5, 0, 1, -1, 0, -1);
    }

    /** Towns where NAMES that were given must be taken back many a time until all STREETS have one. */
    private static void planSearch() {
        isPlan("5 of 10 by 9", Check.of("near 1;"
            + streets("acuvw bauvw acxyz ccuvw abuvw cbuvw abxyz caxyz bbuvw cbxyz".split(" "))
            + "pool acklm cbklm ccklm bbklm aaklm bbcopq abbopq bbbrst acrst;"
            + "alias cbbklm of bbuvw;alias aabklm of cbxyz;alias barst of abxyz;alias bcrst of ccuvw;alias cbcopq of ccuvw;"
            + "alias bcaklm of cbuvw;"), 472, 0, -1, -1, -1, 5, 0, -1, 6, 7, 1, -1);
        isPlan("4 of 9 by 10", Check.of("near 1;"
            + streets("cbuvw cauvw aaxyz caxyz baxyz bcxyz aauvw acxyz bcuvw".split(" "))
            + "pool abcrst acopq abrst acklm aaopq accklm caarst bbcklm aacrst bbcopq;"
            + "alias bccklm of aauvw;alias cacrst of cauvw;alias cbcopq of aaxyz;alias bbklm of aauvw;"
            + "alias cccopq of aaxyz;alias babopq of aaxyz;alias cbrst of aaxyz;alias ccklm of cauvw;"
            + "alias bcbrst of baxyz;"), 46, 0, -1, 3, 9, 0, -1, 1, -1, -1, -1);
        isPlan("6 of 10 by 9", Check.of("near 1;"
            + streets("baxyz caxyz bbuvw ccxyz bcxyz bbxyz bauvw ccuvw cauvw bcuvw".split(" "))
            + "pool acrst acklm bcrst abbrst bcklm aaopq baaopq acopq cbrst;"
            + "alias abopq of caxyz;alias ccbrst of ccuvw;alias aaklm of bbuvw;alias bcbopq of bbuvw;"
            + "alias bbklm of bbuvw;alias bbbopq of ccxyz;alias ccaopq of bcuvw;"), 215, 0,
            0, 7, 1, -1, 3, -1, 6, 8, -1, -1);
    }

    private static void planNames() {
        Check.sentence("Term II", "THE PLAN: NAMES of the POOL that no STREET has, unlike ones, so that then there are"
            + " no CLASHES");
        StreetNames x = Check.of("street aab;street aac;street zzz;pool oooo pppp;");
        x.take(2, 0);
        isPlan("a STREET has the first", x, 1, 0, 1, -1, -1);
        isPlan("one NAME for two", Check.of(streets("aab", "aac", "xxy", "xxz") + "pool oooo;"), -1, -1, -1, -1, -1, -1);
        isPlan("two for two", Check.of(streets("aab", "aac", "xxy", "xxz") + "pool oooo pppp;"), 5, 0, 0, -1, 1, -1);
        isPlan("two that are ALIKE by letters",
            Check.of(streets("aab", "aac", "xxy", "xxz") + "pool oooo ooop;"), -1, -1, -1, -1, -1, -1);
        isPlan("two that are ALIKE by sound",
            Check.of("near 1;" + streets("aab", "aac", "xxy", "xxz") + "pool op ooopp;"), -1, -1, -1, -1, -1, -1);
        isPlan("ALIKE to one that stays", Check.of("street aab;street aac;street zzz;pool zzy;"), -1, -1, -1, -1, -1);
        isPlan("2 CHANGES from one that stays", Check.of("street aab;street aac;street zzz;pool zyy;"), 1, 0, 0, -1, -1);
        isPlan("ALIKE to the one it clashed with", Check.of("street aab;street aac;pool aad;"), -1, -1, -1, -1);
        isPlan("ALIKE to its own NAME alone", Check.of("street aab;street aac;pool xaab;"), 1, 0, 0, -1);
    }

    private static void planAliases() {
        Check.sentence("Term II", "THE PLAN: none of the new NAMES is ALIKE to a LIVE ALIAS of another STREET");
        StreetNames x = Check.of("last 2;street aab;street aac;street zzz;alias ooop of zzz;pool oooo;");
        isPlan("LIVE", x, -1, -1, -1, -1, -1);
        x.years(2);
        isPlan("in its last YEAR", x, -1, -1, -1, -1, -1);
        x.years(1);
        isPlan("behind it", x, 1, 0, 0, -1, -1);
        x.undo();
        isPlan("undone", x, -1, -1, -1, -1, -1);
        isPlan("2 CHANGES from it", Check.of("street aab;street aac;street zzz;alias oopp of zzz;pool oooo;"),
            1, 0, 0, -1, -1);
        isPlan("ALIKE to its own NAME, and to it", Check.of("street aab;street aac;street zzz;alias xaabc of zzz;pool xaab;"),
            -1, -1, -1, -1, -1);
        isPlan("ALIKE to ALIASES of two", Check.of("street aab;street aac;alias ooop of aab;alias ooox of aac;pool oooo;"),
            -1, -1, -1, -1);
        isPlan("its own", Check.of("street aab;street aac;alias ooop of aab;pool oooo;" + houses("aab", 2)),
            1, 2, 0, -1);
        isPlan("the other's own", Check.of("street aab;street aac;alias ooop of aac;pool oooo;" + houses("aac", 2)),
            2, 2, -1, 0);
    }

    private static void planCalledNow() {
        Check.sentence("Term II", "THE PLAN: or to what another one of those STREETS is called now");
        // aab and xxy must both get NAMES; xaab and aabu are ALIKE to aab alone, uxxy to xxy alone
        String text = streets("aab", "aac", "xxy", "xxz") + houses("aac", 1) + houses("xxz", 1);
        isPlan("each its own", Check.of(text + "pool xaab uxxy;"), 5, 0, 0, -1, 1, -1);
        isPlan("each its own, the POOL turned", Check.of(text + "pool uxxy xaab;"), 5, 0, 1, -1, 0, -1);
        isPlan("both ALIKE to one", Check.of(text + "pool xaab uaab oooo;"), 5, 0, 0, -1, 2, -1);
        isPlan("both ALIKE to one alone", Check.of(text + "pool xaab aabu;"), -1, -1, -1, -1, -1, -1);
    }

    private static void planMost() {
        Check.sentence("Term II", "THE PLAN: as many STREETS and NAMES as there may be");
        String nine = "pool aaaa bbbb cccc dddd eeee ffff gggg hhhh iiii";
        isPlan("9 of 10 by 9", Check.of(tenAlike() + nine + ";"), 511, 0, 0, 1, 2, 3, 4, 5, 6, 7, 8, -1);
        isPlan("9 of 10 by 8", Check.of(tenAlike() + nine.replace(" iiii", "") + ";"), -1, -1, -1);
        isPlan("9 of 10 by 12", Check.of(tenAlike() + nine + " jjjj kkkk llll;"), 511, 0, 0, 1, 2, 3, 4, 5, 6, 7, 8, -1);
        isPlan("9 of 10, the first stays", Check.of(tenAlike() + nine + ";" + houses("xa", 1)), 1022, 0,
            -1, 0, 1, 2, 3, 4, 5, 6, 7, 8);
        StreetNames x = Check.of(tenAlike() + nine + ";");
        for (int h = 0; h < 120; h++) {
            x.build(h / 12, 0, h % 12);
        }
        isPlan("108 HOUSES", x, 511, 108, 0, 1, 2, 3, 4, 5, 6, 7, 8, -1);
        isPlan("a chain of ten", Check.of(streets(CHAIN) + "pool a b c d e f;near 0;"), 0, 0, -1);
        isPlan("a chain of ten, 5", Check.of(streets(CHAIN) + "pool aaaa bbbb cccc dddd eeee;"), 0b0101010101, 0,
            0, -1, 1, -1, 2, -1, 3, -1, 4, -1);
    }

    private static void planNone() {
        Check.sentence("Promise 21", "NONE when there is no such PLAN, or for others");
        for (int what : new int[] {-1, 3, LEAST, MOST}) {
            Twins.tells("plan(" + what + ")", Twins::lived, x -> x.plan(what), -1);
            Check.due("no STREETS: plan(" + what + ")", new StreetNames().plan(what), -1);
            Check.due("no PLAN: plan(" + what + ")", Check.of("street a;street b;").plan(what), -1);
        }
        for (int what = 0; what < 3; what++) {
            int of = what;
            Twins.tells("no PLAN: plan(" + what + ")", () -> Check.of("street a;street b;"), x -> x.plan(of), -1);
            Twins.tells("plan(" + what + ")", () -> Check.of("street a;street b;pool xxx;"), x -> x.plan(of),
                new int[] {1, 0, 1}[what]);
        }
    }

    private static void planned() {
        Check.sentence("Promise 22", "NONE when it gets none, there is no PLAN, or no such STREET");
        StreetNames x = Check.of("street mill;street milk;pool oak elm;");
        Check.due("it gets one", x.planned(0), 0);
        Check.due("it gets none", x.planned(1), -1);
        Check.due("no PLAN", Check.of("street mill;street milk;").planned(0), -1);
        Check.due("no STREETS", new StreetNames().planned(0), -1);
        for (int s : new int[] {-1, 2, 31, 32, LEAST, MOST}) {
            Twins.tells("planned(" + s + ")", () -> Check.of("street mill;street milk;pool oak;"), y -> y.planned(s), -1);
        }
        Check.due("an 11th", Check.of(tenAlike() + "pool aaaa bbbb cccc dddd eeee ffff gggg hhhh iiii;").planned(10), -1);
        x.take(0, 0);
        Check.due("no CLASHES any more", x.planned(0), -1);
        x.undo();
        Check.due("a CLASH again", x.planned(0), 0);
    }

    private static void least() {
        Check.sentence("Promise 23", "The fewest STREETS that must be renamed so that of the others no two are ALIKE"
            + " (whatever the new NAMES)");
        Check.due("no STREETS", new StreetNames().least(), 0);
        StringBuilder text = new StringBuilder();
        for (int s = 0; s < 10; s++) {
            text.append("street x").append((char) ('a' + s)).append(';');
            Check.due(s + 1 + " that are all ALIKE", Check.of(text.toString()).least(), s);
        }
        Check.due("none ALIKE", Check.of(streets("aaa", "bbb", "ccc", "ddd")).least(), 0);
        Check.due("a chain of ten", Check.of(streets(CHAIN)).least(), 5);
        Check.due("the middle of three", Check.of(streets("milk", "mill", "till")).least(), 1);
        Check.due("a POOL of none that goes", Check.of("street mill;street milk;pool malk;").least(), 1);
        StreetNames x = Check.of(streets("milk", "mill", "till") + "alias oat of milk;alias elx of till;pool oak elm;");
        Check.due("THE PLAN needs two", x.plan(0), 2);
        Check.due("least is one", x.least(), 1);
        Twins.tells("least()", () -> Check.of("street a;street b;"), y -> y.least(), 1);
    }
}
