/** Term III on HOUSES, LOW, IN ORDER, FEWEST, THEN and BUILT, and promises 24 to 32, at their edges. */
public final class EdgesOfHousesTest {
    private static final int LEAST = Integer.MIN_VALUE;
    private static final int MOST = Integer.MAX_VALUE;

    public static void main(String[] args) {
        places();
        low();
        inOrder();
        fewest();
        then();
        fewestAtTheTop();
        noWay();
        builtLow();
        builtBetween();
        builtAtTheTop();
        houses();
        house();
        houseNone();
        at();
        ordered();
        fewestNone();
        thenNone();
        would();
        wouldNone();
        stepped();
        gaps();
        gapsNone();
        Check.finish("EdgesOfHousesTest");
    }

    /** A street oak with HOUSES; each is told as "left 10 3". */
    private static StreetNames oak(String rules, String... told) {
        StringBuilder text = new StringBuilder(rules).append("street oak;");
        for (String house : told) {
            text.append("house oak ").append(house).append(';');
        }
        return Check.of(text.toString());
    }

    /** Two HOUSES, one a side. */
    private static StreetNames two() {
        return oak("", "left 0 1", "right 0 2");
    }

    private static StreetNames twelve(String side) {
        String[] told = new String[12];
        for (int i = 0; i < 12; i++) {
            told[i] = side + " " + 10 * i + " " + (2 * i + (side.equals("left") ? 1 : 2));
        }
        return oak("", told);
    }

    /** Twelve on the left from yards on, none of which can keep its number. */
    private static StreetNames twelveWrong(int yards) {
        String[] told = new String[12];
        for (int i = 0; i < 12; i++) {
            told[i] = "left " + (yards + i) + " 2";
        }
        return oak("", told);
    }

    private static void yardsAre(StreetNames x, int... due) {
        for (int h = 0; h < due.length; h++) {
            Check.due("yards of house " + h, x.house(0, h, 1), due[h]);
        }
        Check.due("house behind the last", x.house(0, due.length, 1), -1);
    }

    private static void places() {
        Check.sentence("Term III", "HOUSES of a STREET are numbered by places 0 and on as they were told, built (those"
            + " behind one that is torn down count one less)");
        StreetNames x = oak("", "left 30 9", "right 20 6", "left 10 3");
        yardsAre(x, 30, 20, 10);
        x.build(0, 0, 0);
        yardsAre(x, 30, 20, 10, 0);
        x.tear(0, 1);
        yardsAre(x, 30, 10, 0);
        x.tear(0, 0);
        yardsAre(x, 10, 0);
        x.tear(0, 1);
        yardsAre(x, 10);
        x.tear(0, 0);
        yardsAre(x);
        x.build(0, 1, 50);
        yardsAre(x, 50);
        x = twelve("left");
        x.tear(0, 11);
        yardsAre(x, 0, 10, 20, 30, 40, 50, 60, 70, 80, 90, 100);
        x.tear(0, 0);
        yardsAre(x, 10, 20, 30, 40, 50, 60, 70, 80, 90, 100);
    }

    private static void low(String rules, int yards, int left, int right) {
        StreetNames x = oak(rules, "left " + yards + " 1", "right " + yards + " 1");
        Check.due("LOW at " + yards + " on the left by \"" + rules + "\"", x.house(0, 0, 3), left);
        Check.due("LOW at " + yards + " on the right by \"" + rules + "\"", x.house(0, 1, 3), right);
    }

    private static void low() {
        Check.sentence("Term III", "LOW of a house: yards by step, cut, twice, and 1 on the left, 2 on the right");
        low("", 0, 1, 2);
        low("", 9, 1, 2);
        low("", 10, 3, 4);
        low("", 19, 3, 4);
        low("", 20, 5, 6);
        low("", 9999, 1999, 2000);
        low("step 1;", 0, 1, 2);
        low("step 1;", 1, 3, 4);
        low("step 1;", 9999, 19999, 20000);
        low("step 99;", 98, 1, 2);
        low("step 99;", 99, 3, 4);
        low("step 99;", 9899, 199, 200);
        low("step 99;", 9999, 203, 204);
    }

    private static void order(int due, String... told) {
        Check.due("ordered " + String.join(", ", told), oak("", told).ordered(0), due);
    }

    private static void inOrder() {
        Check.sentence("Term III", "IN ORDER is a side, if numbers are odd on the left, even on the right");
        order(1);
        order(1, "left 0 1");
        order(1, "right 0 2");
        order(0, "left 0 2");
        order(0, "right 0 1");
        order(0, "right 0 3");
        Check.sentence("Term III", "IN ORDER: 999 at most");
        order(1, "left 0 999");
        order(1, "right 0 998");
        order(0, "right 0 999");
        Check.sentence("Term III", "IN ORDER: each no less than LOW");
        order(1, "left 20 5");
        order(0, "left 20 3");
        order(1, "right 20 6");
        order(0, "right 20 4");
        order(1, "left 29 5");
        order(0, "left 30 5");
        order(1, "left 4999 999");
        order(0, "left 5000 999");
        order(1, "right 4989 998");
        order(0, "right 4990 998");
        Check.sentence("Term III", "IN ORDER: rising with the yards");
        order(1, "left 0 1", "left 1 3");
        order(1, "left 1 3", "left 0 1");
        order(0, "left 0 1", "left 1 1");
        order(0, "left 0 3", "left 1 1");
        order(0, "right 0 4", "right 1 4");
        order(1, "left 0 3", "right 1 2");
        order(0, "left 0 1", "left 1 3", "left 2 3");
        order(0, "left 0 1", "right 0 2", "right 1 2");
        order(0, "left 0 3", "left 1 3", "right 0 2");
    }

    private static void numbers(StreetNames x, int fewest, int... then) {
        Check.due("fewest", x.fewest(0), fewest);
        for (int h = 0; h < then.length; h++) {
            Check.due("then " + h, x.then(0, h), then[h]);
        }
    }

    private static void fewest() {
        Check.sentence("Term III", "FEWEST: the fewest houses of a STREET that get other numbers so that both sides are"
            + " IN ORDER");
        numbers(oak(""), 0);
        numbers(oak("", "left 0 1"), 0, 1);
        numbers(oak("", "left 0 2"), 1, 1);
        numbers(oak("", "left 0 2", "right 0 1"), 2, 1, 2);
        numbers(oak("", "left 20 3"), 1, 5);
        numbers(oak("", "left 20 5"), 0, 5);
        numbers(oak("", "left 0 1", "left 1 1"), 1, 1, 3);
        numbers(oak("", "left 0 1", "left 1 5", "left 2 3"), 1, 1, 5, 7);
        // between 1 and 3 there is no room for one, between 1 and 5 there is
        numbers(oak("", "left 0 1", "left 1 9", "left 2 3", "left 3 5"), 2, 1, 9, 11, 13);
        numbers(oak("", "left 0 1", "left 1 9", "left 2 5", "left 3 7"), 1, 1, 3, 5, 7);
        numbers(twelve("left"), 0, 1, 3, 5, 7, 9, 11, 13, 15, 17, 19, 21, 23);
        numbers(twelve("right"), 0, 2, 4, 6, 8, 10, 12, 14, 16, 18, 20, 22, 24);
        numbers(twelveWrong(0), 12, 1, 3, 5, 7, 9, 11, 13, 15, 17, 19, 21, 23);
    }

    private static void then() {
        Check.sentence("Term III", "the numbers THEN: of such ways the one whose numbers are least, house by house by"
            + " yards, of each side");
        numbers(oak("", "left 0 5", "left 1 3"), 1, 1, 3);
        numbers(oak("", "left 1 3", "left 0 5"), 1, 3, 1);
        numbers(oak("", "left 0 3", "left 1 3"), 1, 1, 3);
        numbers(oak("", "left 0 1", "left 1 1"), 1, 1, 3);
        numbers(oak("", "right 0 4", "right 1 4", "left 0 3", "left 1 3"), 2, 2, 4, 1, 3);
        numbers(oak("", "left 0 9", "left 1 7", "left 2 5"), 2, 1, 3, 5);
        numbers(oak("", "left 0 9", "left 1 7", "left 2 3"), 2, 1, 7, 9);
        numbers(oak("", "left 0 9", "left 1 2", "left 2 3"), 2, 9, 11, 13);
        numbers(oak("", "left 50 99", "left 51 98", "left 90 97"), 2, 11, 13, 97);
        numbers(oak("", "left 10 1", "left 100 5", "left 110 7"), 3, 3, 21, 23);
        numbers(oak("", "left 0 5", "left 1 2", "left 2 11", "left 3 4", "left 4 21"), 2, 5, 7, 11, 13, 21);
        numbers(oak("", "left 0 5", "left 1 11", "left 2 21", "left 3 4", "left 4 31"), 1, 5, 11, 21, 23, 31);
        numbers(oak("", "left 0 1", "left 1 5", "left 2 99", "left 3 7"), 1, 1, 5, 99, 101);
    }

    private static void fewestAtTheTop() {
        Check.sentence("Term III", "FEWEST, IN ORDER: 999 at most");
        numbers(oak("", "left 4990 1"), 1, 999);
        numbers(oak("", "left 4999 1"), 1, 999);
        numbers(oak("", "right 4980 1"), 1, 998);
        numbers(oak("", "right 4989 1"), 1, 998);
        numbers(oak("", "left 4980 1", "left 4981 1"), 2, 997, 999);
        numbers(oak("", "left 4980 999", "left 4981 999"), 1, 997, 999);
        numbers(oak("", "left 0 999", "left 1 999"), 1, 1, 999);
        numbers(oak("", "left 0 999", "left 1 2"), 2, 1, 3);
        numbers(oak("", "left 0 997", "left 1 2"), 1, 997, 999);
        numbers(oak("", "right 0 998", "right 1 1"), 2, 2, 4);
        numbers(oak("", "right 0 996", "right 1 1"), 1, 996, 998);
        numbers(twelveWrong(4880), 12, 977, 979, 981, 983, 985, 987, 989, 991, 993, 995, 997, 999);
        numbers(twelveWrong(4889), 12, 977, 979, 981, 983, 985, 987, 989, 991, 993, 995, 997, 999);
        numbers(twelveWrong(4890), -1, -1, -1, -1, -1, -1, -1, -1, -1, -1, -1, -1, -1);
    }

    private static void noWay() {
        Check.sentence("Promise 28", "FEWEST; NONE when there is no such way");
        numbers(oak("", "left 5000 999"), -1, -1);
        numbers(oak("", "right 4990 998"), -1, -1);
        numbers(oak("", "left 4990 999", "left 4991 999"), -1, -1, -1);
        numbers(oak("", "right 4980 998", "right 4981 998"), -1, -1, -1);
        numbers(oak("", "left 9999 1"), -1, -1);
        numbers(oak("", "left 0 1", "right 9999 2"), -1, -1, -1);
        numbers(oak("", "left 9999 1", "right 0 2"), -1, -1, -1);
        numbers(oak("step 1;", "left 499 1"), 1, 999);
        numbers(oak("step 1;", "left 500 1"), -1, -1);
        numbers(oak("step 1;", "right 498 1"), 1, 998);
        numbers(oak("step 1;", "right 499 1"), -1, -1);
    }

    private static void builtLow() {
        Check.sentence("Term III", "BUILT: odd or even as told, no less than LOW");
        StreetNames x = oak("");
        int[][] due = {{0, 0, 1}, {1, 0, 2}, {0, 9, 1}, {1, 9, 2}, {0, 10, 3}, {1, 10, 4}, {0, 4999, 999}, {1, 4989, 998}};
        for (int[] row : due) {
            Check.due("would(0, " + row[0] + ", " + row[1] + ")", x.would(0, row[0], row[1]), row[2]);
        }
    }

    private static void builtBetween() {
        Check.sentence("Term III", "BUILT: above all numbers at lesser yards on its side, below all at greater ones");
        StreetNames x = oak("", "left 10 5", "left 20 9", "left 30 11");
        Check.due("below 5", x.would(0, 0, 9), 1);
        Check.due("above 5, below 9", x.would(0, 0, 11), 7);
        Check.due("above 9, below 11", x.would(0, 0, 21), -1);
        Check.due("above 11", x.would(0, 0, 31), 13);
        Check.due("the other side minds none", x.would(0, 1, 21), 6);
        x = oak("", "left 10 9", "left 20 3", "left 30 7");
        Check.due("above the greatest of all lesser", x.would(0, 0, 31), 11);
        Check.due("below the least of all greater", x.would(0, 0, 5), 1);
        Check.due("above 9 and below 3", x.would(0, 0, 15), -1);
        Check.due("above 9 and below 7", x.would(0, 0, 25), -1);
        x = oak("", "left 10 1", "left 20 8");
        Check.due("below 1", x.would(0, 0, 9), -1);
        Check.due("above an even one", x.would(0, 0, 21), 9);
        Check.due("LOW between 1 and 8", x.would(0, 0, 19), 3);
        x = oak("", "right 10 1", "right 20 5");
        Check.due("below an odd one", x.would(0, 1, 9), -1);
        Check.due("above an odd one", x.would(0, 1, 11), 4);
        Check.due("above an odd one, behind", x.would(0, 1, 21), 6);
        x = oak("", "left 40 9", "left 50 10");
        Check.due("LOW 9 is not below 9", x.would(0, 0, 41), -1);
        Check.due("LOW 7 is below 9", x.would(0, 0, 39), 7);
    }

    private static void builtAtTheTop() {
        Check.sentence("Term III", "BUILT: 999 at most");
        Check.due("left, LOW 999", oak("").would(0, 0, 4999), 999);
        Check.due("left, LOW 1001", oak("").would(0, 0, 5000), -1);
        Check.due("right, LOW 998", oak("").would(0, 1, 4989), 998);
        Check.due("right, LOW 1000", oak("").would(0, 1, 4990), -1);
        Check.due("behind 997", oak("", "left 0 997").would(0, 0, 1), 999);
        Check.due("behind 998 on the left", oak("", "left 0 998").would(0, 0, 1), 999);
        Check.due("behind 999", oak("", "left 0 999").would(0, 0, 1), -1);
        Check.due("behind 996", oak("", "right 0 996").would(0, 1, 1), 998);
        Check.due("behind 997 on the right", oak("", "right 0 997").would(0, 1, 1), 998);
        Check.due("behind 998", oak("", "right 0 998").would(0, 1, 1), -1);
        Check.due("behind 999 on the right", oak("", "right 0 999").would(0, 1, 1), -1);
        Check.due("ahead of 999", oak("", "left 4999 999").would(0, 0, 4989), 997);
        Check.due("ahead of 999, LOW 999", oak("", "left 4999 999").would(0, 0, 4998), -1);
    }

    private static void houses() {
        Check.sentence("Promise 24", "How many HOUSES a STREET has. NONE when there is none such");
        Check.due("none", oak("").houses(0), 0);
        Check.due("two", two().houses(0), 2);
        Check.due("twelve", twelve("left").houses(0), 12);
        StreetNames x = Check.of("street a;street b;house b left 0 1;");
        Check.due("of the first", x.houses(0), 0);
        Check.due("of the last", x.houses(1), 1);
        for (int s : new int[] {-1, 1, 10, LEAST, MOST}) {
            Twins.tells("houses(" + s + ")", EdgesOfHousesTest::two, y -> y.houses(s), -1);
        }
        Check.due("no STREETS", new StreetNames().houses(0), -1);
    }

    private static void house() {
        Check.sentence("Promise 25", "0 its side (0 left, 1 right), 1 yards, 2 number, 3 LOW, 4 its place among those of"
            + " its side by yards (the first 0)");
        StreetNames x = oak("", "left 9999 999", "right 0 998", "left 0 1", "right 9999 2", "left 500 2");
        int[][] due = {{0, 9999, 999, 1999, 2}, {1, 0, 998, 2, 0}, {0, 0, 1, 1, 0}, {1, 9999, 2, 2000, 1},
            {0, 500, 2, 101, 1}};
        for (int h = 0; h < due.length; h++) {
            for (int what = 0; what < 5; what++) {
                Check.due("house(0, " + h + ", " + what + ")", x.house(0, h, what), due[h][what]);
            }
        }
        ofTenStreets();
        for (String side : new String[] {"left", "right"}) {
            Check.due("the last of 12 on the " + side, twelve(side).house(0, 11, 4), 11);
        }
    }

    /** Twelve HOUSES in each of ten STREETS, no two with like yards or numbers on one side of the town. */
    private static void ofTenStreets() {
        StreetNames x = Check.of("step 10;street a;street b;street c;street d;street e;street f;street g;street h;"
            + "street i;street j;");
        for (int i = 0; i < 120; i++) {
            x.build(i / 12, i % 2, 10 * i);
        }
        for (int i = 0; i < 120; i++) {
            String which = "house(" + i / 12 + ", " + i % 12 + ", ";
            Check.due(which + "0)", x.house(i / 12, i % 12, 0), i % 2);
            Check.due(which + "1)", x.house(i / 12, i % 12, 1), 10 * i);
            Check.due(which + "2)", x.house(i / 12, i % 12, 2), 2 * i + 1 + i % 2);
        }
    }

    private static void houseNone() {
        Check.sentence("Promise 25", "NONE when there is none such, or for others");
        for (int wrong : new int[] {-1, 2, 12, LEAST, MOST}) {
            for (int what = 0; what < 5; what++) {
                int of = what;
                Check.due("house(0, " + wrong + ", " + what + ")", two().house(0, wrong, of), -1);
                Check.due("house(" + wrong + ", 0, " + what + ")", two().house(wrong, 0, of), -1);
            }
            Twins.tells("house(0, " + wrong + ", 2)", EdgesOfHousesTest::two, x -> x.house(0, wrong, 2), -1);
        }
        for (int what : new int[] {-1, 5, LEAST, MOST}) {
            Twins.tells("house(0, 0, " + what + ")", EdgesOfHousesTest::two, x -> x.house(0, 0, what), -1);
        }
        Check.due("a 13th", twelve("left").house(0, 12, 0), -1);
        Check.due("the first of none", oak("").house(0, 0, 0), -1);
        StreetNames x = Check.of("street a;street b;house b left 0 1;");
        Check.due("that of the next STREET", x.house(0, 0, 2), -1);
        Check.due("no STREETS", new StreetNames().house(0, 0, 0), -1);
    }

    private static void at() {
        Check.sentence("Promise 26", "The house with a number (the first as told, built); NONE when there is none such");
        StreetNames x = oak("", "left 90 999", "left 80 5", "right 0 5", "left 0 1");
        Check.due("999", x.at(0, 999), 0);
        Check.due("5, the first of two", x.at(0, 5), 1);
        Check.due("1", x.at(0, 1), 3);
        for (int number : new int[] {0, 2, 4, 6, 998, 1000, -1, LEAST, MOST}) {
            Twins.tells("at(0, " + number + ")", () -> oak("", "left 90 999", "left 80 5"), y -> y.at(0, number), -1);
        }
        for (int s : new int[] {-1, 1, LEAST, MOST}) {
            Twins.tells("at(" + s + ", 1)", EdgesOfHousesTest::two, y -> y.at(s, 1), -1);
        }
        Check.due("no HOUSES", oak("").at(0, 1), -1);
        Check.due("no HOUSES, 0", oak("").at(0, 0), -1);
        x.tear(0, 1);
        Check.due("5, one torn down", x.at(0, 5), 1);
        x.tear(0, 1);
        Check.due("5, both torn down", x.at(0, 5), -1);
        x.build(0, 0, 20);
        Check.due("5, built", x.at(0, 5), 2);
    }

    private static void ordered() {
        Check.sentence("Promise 27", "1 if both sides of a STREET are IN ORDER, else 0. NONE when there is none such");
        Twins.tells("both", EdgesOfHousesTest::two, x -> x.ordered(0), 1);
        Twins.tells("left alone", () -> oak("", "left 0 1", "right 0 1"), x -> x.ordered(0), 0);
        Twins.tells("right alone", () -> oak("", "left 0 2", "right 0 2"), x -> x.ordered(0), 0);
        Check.due("no HOUSES", oak("").ordered(0), 1);
        for (int s : new int[] {-1, 1, LEAST, MOST}) {
            Twins.tells("ordered(" + s + ")", EdgesOfHousesTest::two, x -> x.ordered(s), -1);
        }
        Check.due("no STREETS", new StreetNames().ordered(0), -1);
    }

    private static void fewestNone() {
        Check.sentence("Promise 28", "NONE when there is no such way, or no such STREET");
        for (int s : new int[] {-1, 1, LEAST, MOST}) {
            Twins.tells("fewest(" + s + ")", EdgesOfHousesTest::two, x -> x.fewest(s), -1);
        }
        Twins.tells("no way", () -> oak("", "left 5000 1"), x -> x.fewest(0), -1);
        Twins.tells("a way", () -> oak("", "left 0 2"), x -> x.fewest(0), 1);
        Check.due("no STREETS", new StreetNames().fewest(0), -1);
    }

    private static void thenNone() {
        Check.sentence("Promise 29", "The number THEN of house h. NONE when there is no such way, or none such");
        for (int wrong : new int[] {-1, 2, 12, LEAST, MOST}) {
            Twins.tells("then(0, " + wrong + ")", EdgesOfHousesTest::two, x -> x.then(0, wrong), -1);
            Twins.tells("then(" + wrong + ", 0)", EdgesOfHousesTest::two, x -> x.then(wrong, 0), -1);
        }
        Twins.tells("no way", () -> oak("", "left 5000 1"), x -> x.then(0, 0), -1);
        Twins.tells("no way on the other side", () -> oak("", "left 0 1", "right 5000 2"), x -> x.then(0, 0), -1);
        Twins.tells("a way", () -> oak("", "left 0 2"), x -> x.then(0, 0), 1);
        Check.due("no HOUSES", oak("").then(0, 0), -1);
        Check.due("the last of 12", twelve("right").then(0, 11), 24);
        Check.due("a 13th", twelve("right").then(0, 12), -1);
        StreetNames x = Check.of("street a;street b;house b left 0 1;");
        Check.due("that of the next STREET", x.then(0, 0), -1);
        Check.due("no STREETS", new StreetNames().then(0, 0), -1);
    }

    private static void would() {
        Check.sentence("Promise 30", "The number that a house would be BUILT with at yards of a side");
        Twins.tells("would(0, 0, 1)", EdgesOfHousesTest::two, x -> x.would(0, 0, 1), 3);
        Twins.tells("would(0, 1, 1)", EdgesOfHousesTest::two, x -> x.would(0, 1, 1), 4);
        Check.due("yards 0", oak("").would(0, 0, 0), 1);
        Check.due("yards 9999", oak("step 99;").would(0, 1, 9999), 204);
        StreetNames x = twelve("left");
        x.tear(0, 11);
        Check.due("a 12th", x.would(0, 0, 999), 199);
    }

    private static void wouldNone() {
        Check.sentence("Promise 30", "NONE when there is none such, it can't be (as build())");
        for (int s : new int[] {-1, 1, LEAST, MOST}) {
            Twins.tells("would(" + s + ", 0, 1)", EdgesOfHousesTest::two, x -> x.would(s, 0, 1), -1);
        }
        for (int side : new int[] {-1, 2, LEAST, MOST}) {
            Twins.tells("would(0, " + side + ", 1)", EdgesOfHousesTest::two, x -> x.would(0, side, 1), -1);
        }
        for (int yards : new int[] {-1, 10000, LEAST, MOST}) {
            Twins.tells("would(0, 0, " + yards + ")", () -> oak("step 99;"), x -> x.would(0, 0, yards), -1);
        }
        Twins.tells("one stands there", EdgesOfHousesTest::two, x -> x.would(0, 0, 0), -1);
        Twins.tells("one stands there", EdgesOfHousesTest::two, x -> x.would(0, 1, 0), -1);
        Twins.tells("no such number", EdgesOfHousesTest::two, x -> x.would(0, 0, 5000), -1);
        Check.due("12 are there", twelve("left").would(0, 0, 999), -1);
        Check.due("12 are there, on the other side", twelve("left").would(0, 1, 999), -1);
        Check.due("no STREETS", new StreetNames().would(0, 0, 0), -1);
    }

    private static void stepped() {
        Check.sentence("Promise 31", "FEWEST of a STREET, if step were another one (1 .. 99)");
        StreetNames x = oak("", "left 98 1", "left 99 3");
        Check.due("step 1", x.stepped(0, 1), 2);
        Check.due("step 98", x.stepped(0, 98), 2);
        Check.due("step 99", x.stepped(0, 99), 0);
        Check.due("its own step", x.stepped(0, 10), x.fewest(0));
        Check.due("step stays", x.has(7), 10);
        Check.due("LOW stays", x.house(0, 0, 3), 19);
        Check.sentence("Promise 31", "NONE when there is no such way, no such STREET, step");
        for (int step : new int[] {0, -1, 100, LEAST, MOST}) {
            Twins.tells("stepped(0, " + step + ")", EdgesOfHousesTest::two, y -> y.stepped(0, step), -1);
        }
        for (int s : new int[] {-1, 1, LEAST, MOST}) {
            Twins.tells("stepped(" + s + ", 10)", EdgesOfHousesTest::two, y -> y.stepped(s, 10), -1);
        }
        Twins.tells("no way by 1", () -> oak("", "left 500 1"), y -> y.stepped(0, 1), -1);
        Twins.tells("a way by 2", () -> oak("", "left 500 1"), y -> y.stepped(0, 2), 1);
        Check.due("499 by 1", oak("", "left 499 1").stepped(0, 1), 1);
        Check.due("no way by 19", oak("", "left 9999 1").stepped(0, 19), -1);
        Check.due("no way by 20", oak("", "right 9999 1").stepped(0, 20), -1);
        Check.due("a way by 21", oak("", "left 9999 1").stepped(0, 21), 1);
        Check.due("no HOUSES", oak("").stepped(0, 1), 0);
        Check.due("no STREETS", new StreetNames().stepped(0, 10), -1);
    }

    private static void gaps() {
        Check.sentence("Promise 32", "How many odd (side 0), even (1) numbers, up to the greatest of these that a house"
            + " of that side of a STREET has, no house of that side has");
        Check.due("1", oak("", "left 0 1").gaps(0, 0), 0);
        Check.due("2", oak("", "right 0 2").gaps(0, 1), 0);
        Check.due("3", oak("", "left 0 3").gaps(0, 0), 1);
        Check.due("4", oak("", "right 0 4").gaps(0, 1), 1);
        Check.due("999", oak("", "left 0 999").gaps(0, 0), 499);
        Check.due("998", oak("", "right 0 998").gaps(0, 1), 498);
        Check.due("1 and 5", oak("", "left 0 1", "left 1 5").gaps(0, 0), 1);
        Check.due("5 twice", oak("", "left 0 5", "left 1 5").gaps(0, 0), 2);
        Check.due("an even one among odd ones", oak("", "left 0 3", "left 1 8").gaps(0, 0), 1);
        Check.due("an odd one among even ones", oak("", "right 0 4", "right 1 9").gaps(0, 1), 1);
        Check.due("the other side's", oak("", "left 0 5", "right 0 3").gaps(0, 0), 2);
        Check.due("the other side's, greater", oak("", "left 0 5", "right 0 9").gaps(0, 0), 2);
        Check.due("twelve", twelve("left").gaps(0, 0), 0);
        Check.due("twelve", twelve("right").gaps(0, 1), 0);
        StreetNames x = oak("", "left 0 1", "left 1 9");
        x.tear(0, 1);
        Check.due("9 torn down", x.gaps(0, 0), 0);
        Check.sentence("Promise 32", "0 without such ones");
        x.tear(0, 0);
        Check.due("all torn down", x.gaps(0, 0), 0);
        Check.due("no HOUSES, left", oak("").gaps(0, 0), 0);
        Check.due("no HOUSES, right", oak("").gaps(0, 1), 0);
        Check.due("even ones alone on the left", oak("", "left 0 8").gaps(0, 0), 0);
        Check.due("odd ones alone on the right", oak("", "right 0 9").gaps(0, 1), 0);
        Check.due("on the other side alone", oak("", "right 0 8").gaps(0, 0), 0);
    }

    private static void gapsNone() {
        Check.sentence("Promise 32", "NONE when there is no such STREET, side");
        for (int s : new int[] {-1, 1, LEAST, MOST}) {
            Twins.tells("gaps(" + s + ", 0)", EdgesOfHousesTest::two, x -> x.gaps(s, 0), -1);
        }
        for (int side : new int[] {-1, 2, LEAST, MOST}) {
            Twins.tells("gaps(0, " + side + ")", EdgesOfHousesTest::two, x -> x.gaps(0, side), -1);
        }
        Twins.tells("gaps(0, 0)", EdgesOfHousesTest::two, x -> x.gaps(0, 0), 0);
        Check.due("no STREETS", new StreetNames().gaps(0, 0), -1);
    }
}
