/** Term I: what a TOWN may tell, the last value that is taken and the first that is not, and every FAULT's place. */
public final class EdgesOfTextTest {
    private static final String LETTERS = "abcdefghijklmnopqrstuvwxyz";
    private static final String[] OWN = {"near", "last", "step", "mute", "same", "pair", "street", "house", "left",
        "right", "alias", "of", "pool"};
    private static final int NEAR = 5;
    private static final int LAST = 6;
    private static final int STEP = 7;
    private static final int GROUPS = 8;
    private static final int PAIRS = 9;
    private static final int MUTE = 10;

    public static void main(String[] args) {
        statements();
        near();
        last();
        step();
        onceAtMost();
        mute();
        same();
        pair();
        street();
        houses();
        houseNumbers();
        alias();
        pool();
        Check.finish("EdgesOfTextTest");
    }

    private static void statements() {
        Check.sentence("Term I", "A TOWN is a text: { STATEMENT ; }");
        Check.sound("");
        Check.sound("near 1;");
        Check.sound("near 1;last 1;");
        Check.faulty(";", 1, 0);
        Check.faulty("near 1;;", 1, 7);
        Check.faulty("near 1", 1, 6);
        Check.faulty("near 1 last 1;", 1, 7);
        Check.faulty("near 1;last 1", 1, 13);
        for (String word : new String[] {"left", "right", "of", "x", "nea", "nears", "7", ","}) {
            Check.faulty(word, 1, 0);
            Check.faulty("near 1;" + word + " a;", 1, 7);
        }
    }

    private static void near() {
        Check.sentence("Term I", "near N (0 .. 3)");
        Check.has("near 0;", NEAR, 0);
        Check.has("near 3;", NEAR, 3);
        Check.faulty("near 4;", 2, 5);
        Check.faulty("near 9999;", 2, 5);
        Check.faulty("near -1;", 1, 5);
        Check.faulty("near ;", 1, 5);
        Check.sentence("Term I", "without: 1, 10, 10");
        Check.has("", NEAR, 1);
        Check.has("", LAST, 10);
        Check.has("", STEP, 10);
    }

    private static void last() {
        Check.sentence("Term I", "last N (0 .. 99)");
        Check.has("last 0;", LAST, 0);
        Check.has("last 99;", LAST, 99);
        Check.faulty("last 100;", 2, 5);
        Check.faulty("last 9999;", 2, 5);
        Check.faulty("last -1;", 1, 5);
        Check.faulty("last;", 1, 4);
    }

    private static void step() {
        Check.sentence("Term I", "step N (1 .. 99)");
        Check.has("step 1;", STEP, 1);
        Check.has("step 99;", STEP, 99);
        Check.faulty("step 0;", 2, 5);
        Check.faulty("step 0000;", 2, 5);
        Check.faulty("step 100;", 2, 5);
        Check.faulty("step 9999;", 2, 5);
        Check.faulty("step;", 1, 4);
    }

    private static void onceAtMost() {
        Check.sentence("Term I", "each once at most");
        Check.sound("near 1;last 1;step 1;");
        for (String word : new String[] {"near", "last", "step"}) {
            Check.faulty(word + " 1;" + word + " 1;", 1, 7);
            Check.faulty(word + " 1;" + word, 1, 7);
            Check.faulty(word + " 2;street a;" + word + " 3;", 1, 16);
        }
        Check.sentence("Term I", "mute LETTERS (once)");
        Check.faulty("mute a;mute a;", 1, 7);
        Check.faulty("mute a;mute b;", 1, 7);
        Check.faulty("mute a;street a;mute", 1, 16);
    }

    private static void mute() {
        Check.sentence("Term I", "LETTERS: a word of 1 to 26 letters, unlike (mute)");
        Check.has("", MUTE, 0);
        Check.has("mute a;", MUTE, 1);
        Check.has("mute " + LETTERS + ";", MUTE, 26);
        Check.faulty("mute;", 1, 4);
        Check.faulty("mute 1;", 1, 5);
        Check.faulty("mute " + LETTERS + "a;", 1, 5);
        Check.faulty("mute a b;", 1, 7);
        Check.faulty("mute aa;", 3, 5);
        Check.faulty("mute abca;", 3, 5);
        Check.faulty("mute " + LETTERS.substring(1) + "z;", 3, 5);
        Check.sentence("Term I", "LETTERS: also an OWN one");
        for (String word : OWN) {
            boolean isUnlike = word.chars().distinct().count() == word.length();
            if (isUnlike) {
                Check.has("mute " + word + ";", MUTE, word.length());
                Check.has("same " + word + ";", GROUPS, 1);
            } else {
                Check.faulty("mute " + word + ";", 3, 5);
                Check.faulty("same " + word + ";", 3, 5);
            }
        }
        Check.has("pair of o;", PAIRS, 1);
    }

    private static void same() {
        Check.sentence("Term I", "same LETTERS (2 or more: a GROUP)");
        Check.has("same ab;", GROUPS, 1);
        Check.has("same " + LETTERS + ";", GROUPS, 1);
        Check.faulty("same a;", 1, 5);
        Check.faulty("same;", 1, 4);
        Check.faulty("same " + LETTERS + "a;", 1, 5);
        Check.faulty("same aa;", 3, 5);
        Check.faulty("same abcb;", 3, 5);
        Check.sentence("Term I", "8 (GROUPS); 4 a 9th GROUP, at the STATEMENT's word");
        String eight = "same ab;same cd;same ef;same gh;same ij;same kl;same mn;same op;";
        Check.has(eight, GROUPS, 8);
        Check.faulty(eight + "same qr;", 4, 64);
        Check.faulty(eight + "same", 4, 64);
        Check.faulty(eight + "same ab;", 4, 64);
        Check.faulty(eight + "same q;", 4, 64);
        Check.sentence("Term I", "no letter in two; 3 one is in a GROUP already, at the word");
        Check.sound("same " + LETTERS.substring(0, 13) + ";same " + LETTERS.substring(13) + ";");
        Check.faulty("same ab;same ac;", 3, 13);
        Check.faulty("same ab;same cb;", 3, 13);
        Check.faulty("same ab;same ba;", 3, 13);
        Check.faulty("same ab;same cd;same efgha;", 3, 21);
        Check.faulty("same " + LETTERS + ";same zy;", 3, 37);
    }

    private static void pair() {
        Check.sentence("Term I", "pair LETTERS LETTERS (two letters, they may be like ones, then one)");
        Check.has("pair ab c;", PAIRS, 1);
        Check.has("pair aa a;", PAIRS, 1);
        Check.has("pair zz z;", PAIRS, 1);
        Check.faulty("pair a c;", 1, 5);
        Check.faulty("pair abc c;", 1, 5);
        Check.faulty("pair ;", 1, 5);
        Check.faulty("pair ab ;", 1, 8);
        Check.faulty("pair ab cd;", 1, 8);
        Check.faulty("pair ab cc;", 1, 8);
        Check.faulty("pair ab c d;", 1, 10);
        Check.sentence("Term I", "8 (pairs); 4 a 9th pair, at the STATEMENT's word");
        StringBuilder eight = new StringBuilder();
        for (int i = 0; i < 8; i++) {
            eight.append("pair a").append(LETTERS.charAt(i)).append(" z;");
        }
        Check.has(eight.toString(), PAIRS, 8);
        Check.faulty(eight + "pair ai z;", 4, 80);
        Check.faulty(eight + "pair", 4, 80);
        Check.faulty(eight + "pair aa z;", 4, 80);
        Check.sentence("Term I", "no two of the same two; 3 a pair's two told already, at the word");
        Check.has("pair ab c;pair ac c;pair cb c;", PAIRS, 3);
        Check.faulty("pair ab c;pair ab c;", 3, 15);
        Check.faulty("pair ab c;pair ab d;", 3, 15);
        Check.faulty("pair aa c;pair aa d;", 3, 15);
        Check.faulty("pair ab c;pair cd a;pair ab", 3, 25);
    }

    private static void street() {
        Check.sentence("Term I", "street NAME (10); 4 an 11th STREET, at the STATEMENT's word");
        StringBuilder text = new StringBuilder();
        Check.has("", 0, 0);
        for (int s = 0; s < 10; s++) {
            text.append("street ").append(LETTERS.charAt(s)).append(';');
            Check.has(text.toString(), 0, s + 1);
        }
        Check.faulty(text + "street k;", 4, 90);
        Check.faulty(text + "street", 4, 90);
        Check.faulty(text + "street a;", 4, 90);
        Check.faulty(text + "pool x;street k;", 4, 97);
        Check.sound(text + "pool k;alias l of a;");
        Check.faulty("street;", 1, 6);
        Check.faulty("street a b;", 1, 9);
    }

    /** Text of a STREET a and b with so many HOUSES of a, all on the left, or left and right by turns. */
    private static String housesOfA(int many, boolean byTurns) {
        StringBuilder text = new StringBuilder("street a;street b;");
        for (int i = 0; i < many; i++) {
            text.append(byTurns && i % 2 == 1 ? "house a right " : "house a left ").append(i).append(" 1;");
        }
        return text.toString();
    }

    private static void houses() {
        Check.sentence("Term I", "house NAME SIDE N N (12 of a STREET); 4 a 13th house of a STREET, at its NAME");
        for (boolean byTurns : new boolean[] {false, true}) {
            Check.has(housesOfA(0, byTurns), 3, 0);
            Check.has(housesOfA(1, byTurns), 3, 1);
            String twelve = housesOfA(12, byTurns);
            Check.has(twelve, 3, 12);
            Check.has(twelve + "house b left 0 1;", 3, 13);
            Check.faulty(twelve + "house a left 99 1;", 4, twelve.length() + 6);
            Check.faulty(twelve + "house a right 99 1;", 4, twelve.length() + 6);
            Check.faulty(twelve + "house a", 4, twelve.length() + 6);
            Check.faulty(twelve + "house a left 0 0;", 4, twelve.length() + 6);
            Check.faulty(twelve + "house c left 0 1;", 3, twelve.length() + 6);
        }
        Check.sentence("Term I", "house (of a STREET); 3 a NAME that is none of a STREET's where one is asked, at it");
        Check.faulty("house a left 1 1;", 3, 6);
        Check.faulty("street a;house b left 1 1;", 3, 15);
        Check.faulty("street a;house aa left 1 1;", 3, 15);
        Check.faulty("street a;pool b;house b left 1 1;", 3, 22);
        Check.faulty("street a;alias b of a;house b left 1 1;", 3, 28);
        Check.sentence("Term I", "SIDE: left, right");
        Check.due("left is 0", Check.of("street a;house a left 1 1;").house(0, 0, 0), 0);
        Check.due("right is 1", Check.of("street a;house a right 1 1;").house(0, 0, 0), 1);
        for (String side : new String[] {"lef", "lefts", "rights", "of", "up", "1", ""}) {
            Check.faulty("street a;house a " + side + ";", 1, 17);
        }
    }

    private static void houseNumbers() {
        Check.sentence("Term I", "yards 0 .. 9999");
        Check.due("0", Check.of("street a;house a left 0 1;").house(0, 0, 1), 0);
        Check.due("9999", Check.of("street a;house a left 9999 1;").house(0, 0, 1), 9999);
        Check.faulty("street a;house a left 10000 1;", 1, 22);
        Check.faulty("street a;house a left 00000 1;", 1, 22);
        Check.faulty("street a;house a left -1 1;", 1, 22);
        Check.sentence("Term I", "number 1 .. 999");
        Check.due("1", Check.of("street a;house a left 0 1;").house(0, 0, 2), 1);
        Check.due("999", Check.of("street a;house a left 0 999;").house(0, 0, 2), 999);
        Check.due("0999", Check.of("street a;house a left 0 0999;").house(0, 0, 2), 999);
        Check.faulty("street a;house a left 0 0;", 2, 24);
        Check.faulty("street a;house a left 0 1000;", 2, 24);
        Check.faulty("street a;house a left 0 9999;", 2, 24);
        Check.faulty("street a;house a left 0 10000;", 1, 24);
        Check.faulty("street a;house a left 0;", 1, 23);
        Check.sentence("Term I", "no two at like yards on one side of it; 3 yards told already on that side, at them");
        for (String side : new String[] {"left", "right"}) {
            String one = "street a;house a " + side + " 5 1;";
            Check.faulty(one + "house a " + side + " 5 1;", 3, one.length() + 9 + side.length());
            Check.faulty(one + "house a " + side + " 0005 3;", 3, one.length() + 9 + side.length());
            Check.faulty(one + "house a " + side + " 5", 3, one.length() + 9 + side.length());
            Check.sound(one + "house a " + side + " 4 1;house a " + side + " 6 1;");
        }
        Check.sound("street a;house a left 5 1;house a right 5 1;");
        Check.sound("street a;street b;house a left 5 1;house b left 5 1;");
    }

    private static void alias() {
        Check.sentence("Term I", "alias NAME of NAME (12); 4 a 13th ALIAS, at the STATEMENT's word");
        StringBuilder text = new StringBuilder("street a;street b;");
        Check.has(text.toString(), 2, 0);
        for (int i = 0; i < 12; i++) {
            text.append("alias x").append(LETTERS.charAt(i)).append(i % 2 == 0 ? " of a;" : " of b;");
            Check.has(text.toString(), 2, i + 1);
        }
        Check.faulty(text + "alias y of a;", 4, text.length());
        Check.faulty(text + "alias", 4, text.length());
        Check.faulty(text + "alias xa of a;", 4, text.length());
        Check.faulty(text + "pool y;alias z of a;", 4, text.length() + 7);
        Check.sentence("Term I", "alias (a new NAME, of a STREET)");
        Check.faulty("alias b of a;", 3, 11);
        Check.faulty("street a;alias b of c;", 3, 20);
        Check.faulty("street a;alias b of b;", 3, 20);
        Check.faulty("street a;pool c;alias b of c;", 3, 27);
        Check.faulty("street a;alias c of a;alias b of c;", 3, 33);
        Check.faulty("street a;alias b a;", 1, 17);
        Check.faulty("street a;alias b ofa;", 1, 17);
        Check.faulty("street a;alias b of;", 1, 19);
        Check.faulty("street a;alias;", 1, 14);
    }

    private static void pool() {
        Check.sentence("Term I", "pool NAME { NAME } (12 in all); 4 a 13th of the POOL, at it");
        Check.faulty("pool;", 1, 4);
        Check.faulty("pool", 1, 4);
        Check.has("pool a;", 1, 1);
        Check.has("pool a b;", 1, 2);
        String twelve = "pool a b c d e f g h i j k l";
        Check.has(twelve + ";", 1, 12);
        Check.faulty(twelve + " m;", 4, 29);
        Check.faulty(twelve + " m", 4, 29);
        Check.faulty(twelve + ";pool m;", 4, 34);
        Check.faulty(twelve + ";pool;", 1, 33);
        Check.faulty("pool a b c d e f;pool g h i j k l m;", 4, 34);
        Check.has("pool a;pool b;pool c;pool d;pool e;pool f;pool g;pool h;pool i;pool j;pool k;pool l;", 1, 12);
        Check.sound(twelve + ";street m;alias n of m;");
    }
}
