/** Promises 24 to 32: HOUSES, their numbers, FEWEST, THEN, BUILT, gaps. */
public final class HousesTest {
    public static void main(String[] args) {
        houses();
        at();
        ordered();
        fewest();
        least();
        twelveOnOneSide();
        noWay();
        would();
        stepped();
        gaps();
        Check.finish("HousesTest");
    }

    /** A street oak with HOUSES; each is told as "left 10 3". */
    private static StreetNames oak(String rules, String... told) {
        StringBuilder text = new StringBuilder(rules).append("street oak;");
        for (String house : told) {
            text.append("house oak ").append(house).append(';');
        }
        return Check.of(text.toString());
    }

    private static void houses() {
        StreetNames x = oak("", "left 25 7", "right 5 2", "left 0 1", "left 9999 3", "right 29 8");
        Check.due("houses(0)", x.houses(0), 5);
        Check.due("houses(1)", x.houses(1), -1);
        Check.due("houses(-1)", x.houses(-1), -1);
        int[][] due = {{0, 25, 7, 5, 1}, {1, 5, 2, 2, 0}, {0, 0, 1, 1, 0}, {0, 9999, 3, 1999, 2}, {1, 29, 8, 6, 1}};
        for (int h = 0; h < due.length; h++) {
            for (int what = 0; what < 5; what++) {
                Check.due("house(0," + h + "," + what + ")", x.house(0, h, what), due[h][what]);
            }
        }
        Check.due("house(0,0,5)", x.house(0, 0, 5), -1);
        Check.due("house(0,0,-1)", x.house(0, 0, -1), -1);
        Check.due("house(0,5,0)", x.house(0, 5, 0), -1);
        Check.due("house(0,-1,0)", x.house(0, -1, 0), -1);
        Check.due("house(1,0,0)", x.house(1, 0, 0), -1);
    }

    private static void at() {
        StreetNames x = oak("", "left 25 7", "right 5 2", "left 0 2", "left 30 7");
        Check.due("at 7", x.at(0, 7), 0);
        Check.due("at 2", x.at(0, 2), 1);
        Check.due("at 1", x.at(0, 1), -1);
        Check.due("at 0", x.at(0, 0), -1);
        Check.due("no street", x.at(1, 7), -1);
        Check.due("no street", x.at(-1, 7), -1);
    }

    private static void ordered() {
        Check.due("no houses", oak("").ordered(0), 1);
        Check.due("in order", oak("", "left 25 7", "left 0 1", "right 0 2", "right 5 4", "right 20 6").ordered(0), 1);
        Check.due("even on the left", oak("", "left 0 2").ordered(0), 0);
        Check.due("odd on the right", oak("", "right 0 3").ordered(0), 0);
        Check.due("below low", oak("", "left 20 3").ordered(0), 0);
        Check.due("at low", oak("", "left 20 5").ordered(0), 1);
        Check.due("like numbers", oak("", "left 0 1", "left 5 1").ordered(0), 0);
        Check.due("falling", oak("", "right 0 8", "right 5 6").ordered(0), 0);
        Check.due("1 on the right", oak("", "right 0 1").ordered(0), 0);
        Check.due("no street", oak("").ordered(1), -1);
        Check.due("no street", oak("").ordered(-1), -1);
    }

    private static void numbers(StreetNames x, int fewest, int... then) {
        Check.due("fewest", x.fewest(0), fewest);
        for (int h = 0; h < then.length; h++) {
            Check.due("then " + h, x.then(0, h), then[h]);
        }
        Check.due("then behind", x.then(0, then.length), -1);
        Check.due("then below", x.then(0, -1), -1);
        Check.due("then of no street", x.then(1, 0), -1);
    }

    private static void fewest() {
        numbers(oak(""), 0);
        numbers(oak("", "left 0 1", "right 0 2"), 0, 1, 2);
        numbers(oak("", "left 0 2"), 1, 1);
        numbers(oak("", "right 0 1"), 1, 2);
        numbers(oak("", "left 0 1", "left 1 1", "left 2 5"), 1, 1, 3, 5);
        numbers(oak("", "left 2 5", "left 1 1", "left 0 1"), 1, 5, 3, 1);
        // keeping 3 and 5 needs one below 3 at lesser yards
        numbers(oak("", "left 0 9", "left 1 3", "left 2 5"), 1, 1, 3, 5);
        // no room between 1 and 3 for one more
        numbers(oak("", "left 0 1", "left 1 7", "left 2 3"), 1, 1, 7, 9);
        numbers(oak("", "left 0 1", "left 1 8", "left 2 3"), 2, 1, 3, 5);
        numbers(oak("", "left 0 11", "left 1 13", "left 2 1"), 1, 11, 13, 15);
        numbers(oak("", "left 0 11", "left 1 1"), 1, 11, 13);
        numbers(oak("", "right 0 12", "right 50 4", "right 60 14"), 2, 2, 12, 14);
        numbers(oak("", "left 0 5", "left 1 2", "left 2 11", "left 3 4", "left 4 21"), 2, 5, 7, 11, 13, 21);
        Check.due("no street", oak("").fewest(1), -1);
        Check.due("no street", oak("").fewest(-1), -1);
    }

    private static void least() {
        // either may be kept: the first gets the least, if so
        numbers(oak("", "left 0 11", "left 1 3"), 1, 1, 3);
        // 7 or 5 may stay, 3 not; with 5 the first is less
        numbers(oak("", "left 0 7", "left 1 5", "left 2 3"), 2, 1, 5, 7);
        numbers(oak("", "left 100 21", "left 200 41", "left 300 3"), 1, 21, 41, 61);
        numbers(oak("", "left 100 30", "left 200 41", "left 300 3"), 2, 21, 41, 61);
        numbers(oak("", "left 0 5", "left 1 4", "left 2 4", "left 3 9"), 3, 1, 3, 5, 9);
    }

    private static void twelveOnOneSide() {
        String[] told = new String[12];
        for (int i = 0; i < 12; i++) {
            told[i] = "right " + (120 - 10 * i) + " " + (i == 0 ? 26 : 2);
        }
        numbers(oak("", told), 11, 26, 24, 22, 20, 18, 16, 14, 12, 10, 8, 6, 4);
        numbers(oak("step 99;", told), 10, 26, 22, 20, 18, 16, 14, 12, 10, 8, 6, 4, 2);
    }

    private static void noWay() {
        StreetNames x = oak("", "left 9999 1");
        numbers(x, -1);
        Check.due("then", x.then(0, 0), -1);
        Check.due("renumber", x.renumber(0), -1);
        Check.due("refused", x.status(2), 1);
        numbers(oak("", "left 4990 1"), 1, 999);
        numbers(oak("", "left 4999 999"), 0, 999);
        numbers(oak("", "left 4990 1", "left 4991 1"), -1);
        numbers(oak("", "right 4989 1"), 1, 998);
        numbers(oak("", "right 4990 998"), -1);
        numbers(oak("", "left 0 999", "left 1 1"), 2, 1, 3);
        Check.due("one side alone has no way", oak("", "left 0 1", "right 9999 2").fewest(0), -1);
        // the last may not be kept so high that none is left behind it
        numbers(oak("", "left 0 999", "left 1 997"), 1, 1, 997);
        numbers(oak("", "left 4980 999", "left 4985 999", "left 4990 4"), -1);
        numbers(oak("", "left 4970 999", "left 4985 995", "left 4990 4"), 3, 995, 997, 999);
    }

    private static void would() {
        StreetNames x = oak("", "left 20 5", "left 40 9", "right 20 6");
        Check.due("ahead", x.would(0, 0, 0), 1);
        Check.due("low between", x.would(0, 0, 30), 7);
        Check.due("just behind the first", x.would(0, 0, 21), 7);
        Check.due("behind", x.would(0, 0, 41), 11);
        Check.due("far behind", x.would(0, 0, 1000), 201);
        Check.due("right, ahead", x.would(0, 1, 0), 2);
        Check.due("right, behind", x.would(0, 1, 20 + 1), 8);
        Check.due("one stands there", x.would(0, 0, 20), -1);
        Check.due("none stands on that side", x.would(0, 1, 40), 10);
        Check.due("too far", x.would(0, 0, 5000), -1);
        Check.due("as far as it goes", x.would(0, 0, 4999), 999);
        Check.due("no side", x.would(0, 2, 0), -1);
        Check.due("no side", x.would(0, -1, 0), -1);
        Check.due("no yards", x.would(0, 0, 10000), -1);
        Check.due("no yards", x.would(0, 0, -1), -1);
        Check.due("no street", x.would(1, 0, 0), -1);
        Check.due("no street", x.would(-1, 0, 0), -1);
        x = oak("", "left 0 5", "left 2 7", "left 10 6", "right 5 3");
        Check.due("no room", x.would(0, 0, 1), -1);
        Check.due("below all at greater yards", x.would(0, 0, 5), -1);
        Check.due("above all at lesser yards", x.would(0, 0, 11), 9);
        Check.due("even above odd", x.would(0, 1, 6), 4);
        Check.due("even below odd", x.would(0, 1, 4), 2);
        Check.due("999 and two", oak("", "right 0 998").would(0, 1, 1), -1);
        x = oak("step 99;");
        Check.due("the farthest", x.would(0, 0, 9999), 203);
        Check.due("beyond", x.would(0, 0, 10000), -1);
        x = oak("", "left 0 999");
        Check.due("above 999", x.would(0, 0, 1), -1);
        Check.due("no house was built", x.houses(0), 1);
    }

    private static void stepped() {
        StreetNames x = oak("", "left 100 11", "left 200 21");
        Check.due("by 10", x.fewest(0), 2);
        Check.due("stepped 10", x.stepped(0, 10), 2);
        Check.due("stepped 20", x.stepped(0, 20), 0);
        Check.due("stepped 15", x.stepped(0, 15), 2);
        Check.due("stepped 19", x.stepped(0, 19), 0);
        Check.due("stepped 99", x.stepped(0, 99), 0);
        Check.due("stepped 1", x.stepped(0, 1), 2);
        Check.due("step stays", x.has(7), 10);
        Check.due("then stays", x.then(0, 0), 21);
        Check.due("stepped 0", x.stepped(0, 0), -1);
        Check.due("stepped 100", x.stepped(0, 100), -1);
        Check.due("no street", x.stepped(1, 10), -1);
        Check.due("no street", x.stepped(-1, 10), -1);
        Check.due("no way", oak("", "left 600 1").stepped(0, 1), -1);
    }

    private static void gaps() {
        StreetNames x = oak("", "left 0 1", "left 10 7", "left 20 7", "left 30 10", "right 0 2", "right 10 9");
        Check.due("left", x.gaps(0, 0), 2);
        Check.due("right", x.gaps(0, 1), 0);
        x.tear(0, 0);
        Check.due("left, 1 torn down", x.gaps(0, 0), 3);
        Check.due("no side", x.gaps(0, 2), -1);
        Check.due("no side", x.gaps(0, -1), -1);
        Check.due("no street", x.gaps(1, 0), -1);
        Check.due("no street", x.gaps(-1, 0), -1);
        Check.due("no houses", oak("").gaps(0, 0), 0);
        Check.due("no such ones", oak("", "left 0 2").gaps(0, 0), 0);
        Check.due("998", oak("", "right 0 998").gaps(0, 1), 498);
        Check.due("999", oak("", "left 0 999").gaps(0, 0), 499);
    }
}
