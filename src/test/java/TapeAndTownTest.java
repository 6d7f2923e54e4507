/** Promises 1 to 6: a new object, the tape, towns and their FAULTS. */
public final class TapeAndTownTest {
    public static void main(String[] args) {
        newObject();
        tape();
        town();
        towns();
        settings();
        faultsOfText();
        faultsOfNumbers();
        faultsOfLetters();
        faultsOfNames();
        faultsOfLimits();
        faultsOfOrder();
        blanks();
        Check.finish("TapeAndTownTest");
    }

    private static void newObject() {
        StreetNames x = new StreetNames();
        int[] due = {0, 0, 0, 0, 0, 1, 10, 10, 0, 0, 0, 0};
        for (int what = 0; what < due.length; what++) {
            Check.due("new: has(" + what + ")", x.has(what), due[what]);
        }
        Check.due("new: fault(0)", x.fault(0), 0);
        Check.due("new: fault(1)", x.fault(1), -1);
        Check.due("new: heardAt(0)", x.heardAt(0), -1);
        Check.due("has(12)", x.has(12), -1);
        Check.due("has(-1)", x.has(-1), -1);
        Check.due("has(least)", x.has(Integer.MIN_VALUE), -1);
        for (int what = 0; what < 5; what++) {
            Check.due("new: status(" + what + ")", x.status(what), 0);
        }
        Check.due("new: keeps no image", x.back(0) || x.back(1), false);
    }

    private static void tape() {
        StreetNames x = new StreetNames();
        for (int i = 1; i <= 100; i++) {
            Check.due("feed " + i, x.feed(0x73747265, 0x65742061, 0x62636465, 0x66676820, 0x20202020), 20 * i);
        }
        Check.due("feed over 2000", x.feed(0, 0, 0, 0, 0), -1);
        Check.due("refused feed", x.status(0), 1);
        Check.due("end(2001)", x.end(2001), false);
        Check.due("end(-1)", x.end(-1), false);
        Check.due("end(least)", x.end(Integer.MIN_VALUE), false);
        Check.due("refused end", x.status(0), 4);
        Check.due("end(2000)", x.end(2000), true);
        Check.due("feed still over", x.feed(0, 0, 0, 0, 0), -1);
        Check.due("end(1981)", x.end(1981), true);
        Check.due("1981 and 20", x.feed(0, 0, 0, 0, 0), -1);
        Check.due("end(1980)", x.end(1980), true);
        Check.due("1980 and 20", x.feed(0, 0, 0, 0, 0), 2000);
        Check.due("end(0)", x.end(0), true);
        Check.due("end(1) of none", x.end(1), false);
        Check.due("empty town", x.town(), 0);

        // highest byte first: "street philip;" with signs of each number told apart
        Check.due("feed", x.feed(0x73747265, 0x65742070, 0x68696c69, 0x703b0000, 0), 20);
        Check.due("end(14)", x.end(14), true);
        Check.due("town()", x.town(), 1);
        Check.same("name", Check.name(x, 0, 0), "philip");
        Check.due("the tape is gone", x.end(1), false);
        Check.due("negative numbers", x.feed(-1, -1, -1, -1, -1), 20);
        Check.due("town of bytes 255", x.town(), -1);
        Check.due("its fault", x.fault(0), 1);
        Check.due("the tape is gone, refused too", x.end(1), false);
    }

    private static void town() {
        StreetNames x = Check.of("near 2;last 3;step 4;mute hw;same ab;same cd;pair ph f;street oak;street elm;"
            + "alias old of oak;pool new newer;pool newest;house oak left 10 3;");
        int[] due = {2, 3, 1, 1, 0, 2, 3, 4, 2, 1, 2, 0};
        for (int what = 0; what < due.length; what++) {
            Check.due("has(" + what + ")", x.has(what), due[what]);
        }
        Check.due("fault(0)", x.fault(0), 0);
        Check.due("fault(1)", x.fault(1), -1);
        Check.due("fault(2)", x.fault(2), -1);
        Check.due("fault(-1)", x.fault(-1), -1);
        Check.due("years", x.years(2), 2);
        Check.due("a fault leaves all else", Check.town(x, "street a;street a;"), -1);
        Check.due("refused town", x.status(1), 1);
        Check.due("fault(0)", x.fault(0), 3);
        Check.due("fault(1)", x.fault(1), 16);
        Check.due("streets stay", x.has(0), 2);
        Check.due("the year stays", x.has(4), 2);
        Check.due("acts stay", x.has(11), 1);
        Check.due("a new town", Check.town(x, "street a;"), 1);
        Check.due("the year is 0", x.has(4), 0);
        Check.due("nothing can be undone", x.has(11), 0);
        Check.due("undo", x.undo(), false);
        Check.due("fault(0) without", x.fault(0), 0);
        Check.due("fault(1) without", x.fault(1), -1);
        int[] then = {1, 0, 0, 0, 0, 1, 10, 10, 0, 0, 0, 0};
        for (int what = 0; what < then.length; what++) {
            Check.due("then has(" + what + ")", x.has(what), then[what]);
        }
    }

    /** What one text told bears on no later one. */
    private static void towns() {
        StreetNames x = new StreetNames();
        for (int i = 0; i < 3; i++) {
            Check.due("near, last, step, mute again", Check.town(x, "near 1;last 1;step 1;mute a;street a;"), 1);
            Check.due("same, pair again", Check.town(x, "same ab;pair ab c;pool a;"), 0);
            Check.due("fault ahead of a word", Check.town(x, "x y"), -1);
            Check.due("a word first", Check.town(x, "street a;"), 1);
            Check.due("fault ahead of a number", Check.town(x, "x 1"), -1);
            Check.due("a word first", Check.town(x, "street a;house a left 1 1;"), 1);
            Check.due("house again", Check.town(x, "street a;house a left 1 1;alias b of a;"), 1);
            Check.due("houses", x.houses(0), 1);
            Check.due("groups", x.has(8), 0);
            Check.due("mute", x.has(10), 0);
        }
    }

    private static void settings() {
        StreetNames x = Check.of("near 0;last 0;step 1;mute abcdefghijklmnopqrstuvwxyz;");
        Check.due("near", x.has(5), 0);
        Check.due("last", x.has(6), 0);
        Check.due("step", x.has(7), 1);
        Check.due("mute", x.has(10), 26);
        x = Check.of("step 0099;near 0003;last 99;");
        Check.due("near", x.has(5), 3);
        Check.due("last", x.has(6), 99);
        Check.due("step", x.has(7), 99);
        x = Check.of("same of;mute left;pair of o;pair fo f;pair oo o;same abcdeghijklmnpqrstuvwxyz;");
        Check.due("groups of own words", x.has(8), 2);
        Check.due("mute own word", x.has(10), 4);
        Check.due("pairs of own words", x.has(9), 3);
        x = Check.of("street a;alias b of a;last 7;");
        Check.due("last told behind the alias", x.alias(0, 1), 7);
        x = Check.of("street phil;street fil;pair ph f;");
        Check.due("a pair told behind the streets", x.alike(0, 0, 0, 1), 1);
    }

    private static void faultsOfText() {
        Check.faulty("nea", 1, 0);
        Check.faulty("nearest 1;", 1, 0);
        Check.faulty("oak;", 1, 0);
        Check.faulty("left;", 1, 0);
        Check.faulty("of;", 1, 0);
        Check.faulty("7;", 1, 0);
        Check.faulty("Near 1;", 1, 0);
        Check.faulty("near", 1, 4);
        Check.faulty("near  ", 1, 6);
        Check.faulty("near 1", 1, 6);
        Check.faulty("near 1 2;", 1, 7);
        Check.faulty("near a;", 1, 5);
        Check.faulty("near -1;", 1, 5);
        Check.faulty("near ;", 1, 5);
        Check.faulty("near 1;;", 1, 7);
        Check.faulty("near\t1;", 1, 4);
        Check.faulty("near 00001;", 1, 5);
        Check.faulty("near1;", 1, 4);
        Check.faulty("near 1a;", 1, 6);
        Check.faulty("last 1;last 1;", 1, 7);
        Check.faulty("step 1;step 1;", 1, 7);
        Check.faulty("mute a;mute b;", 1, 7);
        Check.faulty("mute;", 1, 4);
        Check.faulty("mute 1;", 1, 5);
        Check.faulty("mute a b;", 1, 7);
        Check.faulty("mute abcdefghijklmnopqrstuvwxyza;", 1, 5);
        Check.faulty("same abcdefghijklmnopqrstuvwxyzz;", 1, 5);
        Check.faulty("same a;", 1, 5);
        Check.faulty("same;", 1, 4);
        Check.faulty("same 12;", 1, 5);
        Check.faulty("pair a b;", 1, 5);
        Check.faulty("pair ab;", 1, 7);
        Check.faulty("pair ab cc;", 1, 8);
        Check.faulty("pair ab c d;", 1, 10);
        Check.faulty("street;", 1, 6);
        Check.faulty("street a b;", 1, 9);
        Check.faulty("street a1;", 1, 8);
        Check.faulty("street pool;", 1, 7);
        Check.faulty("street abcdefghijk;", 1, 7);
        Check.faulty("street a,", 1, 8);
        Check.faulty("street a;house a;", 1, 16);
        Check.faulty("street a;house a of 1 1;", 1, 17);
        Check.faulty("street a;house a left;", 1, 21);
        Check.faulty("street a;house a left1 1;", 1, 21);
        Check.faulty("street a;house a left 1;", 1, 23);
        Check.faulty("street a;house a left 1 1 1;", 1, 26);
        Check.faulty("street a;house a left 1 12345;", 1, 24);
        Check.faulty("street a;house a left 10000 1;", 1, 22);
        Check.faulty("street a;house pair left 1 1;", 1, 15);
        Check.faulty("alias;", 1, 5);
        Check.faulty("alias of of a;", 1, 6);
        Check.faulty("street a;alias b a;", 1, 17);
        Check.faulty("street a;alias b of;", 1, 19);
        Check.faulty("street a;alias b of of;", 1, 20);
        Check.faulty("street a;alias b of a b;", 1, 22);
        Check.faulty("pool;", 1, 4);
        Check.faulty("pool a", 1, 6);
        Check.faulty("pool a of;", 1, 7);
        Check.faulty("pool a abcdefghijk;", 1, 7);
        Check.faulty("pool a 1;", 1, 7);
        Check.faulty("street a" + (char) 0 + ";", 1, 8);
        Check.faulty("street a" + (char) 228 + ";", 1, 8);
    }

    private static void faultsOfNumbers() {
        Check.faulty("near 4;", 2, 5);
        Check.faulty("near 9999", 2, 5);
        Check.faulty("near 4x", 2, 5);
        Check.faulty("last 100;", 2, 5);
        Check.faulty("step 0;", 2, 5);
        Check.faulty("step 100;", 2, 5);
        Check.faulty("street a;house a left 0 0;", 2, 24);
        Check.faulty("street a;house a left 0 1000;", 2, 24);
        Check.sound("street a;house a left 9999 999;house a right 0000 0001;");
        Check.sound("near 3;last 99;step 99;");
    }

    private static void faultsOfLetters() {
        Check.faulty("mute aba;", 3, 5);
        Check.faulty("mute street;", 3, 5);
        Check.faulty("same aa;", 3, 5);
        Check.faulty("same ab;same ca;", 3, 13);
        Check.faulty("pair aa b;pair aa c;", 3, 15);
        Check.sound("pair ab c;pair ba c;");
        Check.sound("same ab;mute ab;pair ab a;");
        Check.sound("pair aa a;");
    }

    private static void faultsOfNames() {
        Check.faulty("street a;pool a;", 3, 14);
        Check.faulty("pool a;street a;", 3, 14);
        Check.faulty("pool a;pool a;", 3, 12);
        Check.faulty("street a;alias b of a;street b;", 3, 29);
        Check.faulty("street a;alias b of a;pool c b;", 3, 29);
        Check.faulty("street a;alias a of a;", 3, 15);
        Check.faulty("street a;alias b of b;", 3, 20);
        Check.faulty("street a;pool b;alias b of a;", 3, 22);
        Check.faulty("street a;pool b;alias c of b;", 3, 27);
        Check.faulty("street a;alias b of a;alias c of b;", 3, 33);
        Check.faulty("street a;alias b of a;house b left 1 1;", 3, 28);
        Check.faulty("house a left 1 1;street a;", 3, 6);
        Check.faulty("alias b of a;street a;", 3, 11);
        Check.faulty("street a;house a left 5 1;house a left 05 1;", 3, 39);
        Check.sound("street a;house a left 5 1;house a right 5 1;");
        Check.sound("street a;street b;house a left 5 1;house b left 5 1;");
    }

    private static void faultsOfLimits() {
        String streets = "street a;street b;street c;street d;street e;street f;street g;street h;street i;street j;";
        Check.sound(streets);
        Check.faulty(streets + "street k;", 4, streets.length());
        Check.faulty(streets + "street", 4, streets.length());
        Check.faulty(streets + "street a;", 4, streets.length());

        StringBuilder houses = new StringBuilder("street a;street b;");
        for (int i = 0; i < 12; i++) {
            houses.append("house a ").append(i % 2 == 0 ? "left " : "right ").append(i).append(" 1;");
        }
        Check.sound(houses + "house b left 1 1;");
        Check.faulty(houses + "house a left 99 1;", 4, houses.length() + 6);
        Check.faulty(houses + "house a", 4, houses.length() + 6);

        StringBuilder aliases = new StringBuilder("street a;");
        for (int i = 0; i < 12; i++) {
            aliases.append("alias x").append((char) ('a' + i)).append(" of a;");
        }
        Check.sound(aliases.toString());
        Check.faulty(aliases + "alias y of a;", 4, aliases.length());
        Check.faulty(aliases + "alias", 4, aliases.length());

        Check.sound("pool a b c d e f g h i j k l;");
        Check.faulty("pool a b c d e f g h i j k l;pool m;", 4, 34);
        Check.faulty("pool a b c d e f g h i j k l a;", 3, 29);
        Check.faulty("pool a b c d e f g h i j k l of;", 1, 29);

        String groups = "same ab;same cd;same ef;same gh;same ij;same kl;same mn;same op;";
        Check.sound(groups);
        Check.faulty(groups + "same qr;", 4, groups.length());
        String pairs = "pair aa b;pair ab b;pair ac b;pair ad b;pair ae b;pair af b;pair ag b;pair ah b;";
        Check.sound(pairs);
        Check.faulty(pairs + "pair ai b;", 4, pairs.length());
        Check.faulty(pairs + "pair aa b;", 4, pairs.length());
    }

    private static void faultsOfOrder() {
        Check.faulty("near 4;street a;street a", 2, 5);
        Check.faulty("street a;street a;near 4;", 3, 16);
        Check.faulty("street a;house b left 10000 1000;", 3, 15);
    }

    private static void blanks() {
        StreetNames x = Check.of("\n near\n2\n;\n\nstreet  oak  ;  pool\nelm\n fir;\n ");
        Check.due("near", x.has(5), 2);
        Check.due("streets", x.has(0), 1);
        Check.due("pool", x.has(1), 2);
        Check.sound("");
        Check.sound("  \n");
        x = Check.of("street a;");
        Check.due("an empty town", Check.town(x, "   "), 0);
        Check.due("no streets", x.has(0), 0);
    }
}
