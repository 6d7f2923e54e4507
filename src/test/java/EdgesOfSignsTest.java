/** Term I: NAMES, OWN WORDS, N, blanks, and which of several FAULTS is told where. */
public final class EdgesOfSignsTest {
    private static final String LETTERS = "abcdefghijklmnopqrstuvwxyz";
    private static final String[] OWN = {"near", "last", "step", "mute", "same", "pair", "street", "house", "left",
        "right", "alias", "of", "pool"};
    /** Texts that a NAME comes behind, with STREETS ahead where they need one. */
    private static final String[] AHEAD_OF_NEW = {"street ", "street z;alias ", "pool ", "pool z "};
    private static final String[] AHEAD_OF_STREET = {"street z;house ", "street z;alias y of "};

    public static void main(String[] args) {
        lengthOfNames();
        ownWords();
        toldNew();
        digits();
        blanks();
        sideBySide();
        everyByte();
        leastPlace();
        firstOfOnePlace();
        endsTooSoon();
        places();
        Check.finish("EdgesOfSignsTest");
    }

    private static void lengthOfNames() {
        Check.sentence("Term I", "NAME: a word of 1 to 10 letters a .. z; 1 also a NAME of 11 letters");
        for (String letter : LETTERS.split("")) {
            Check.same("street " + letter, Check.name(Check.of("street " + letter + ";"), 0, 0), letter);
        }
        Check.same("10 letters", Check.name(Check.of("street abcdefghij;"), 0, 0), "abcdefghij");
        Check.same("10 letters", Check.name(Check.of("pool zzzzzzzzzz;"), 1, 0), "zzzzzzzzzz");
        for (String ahead : AHEAD_OF_NEW) {
            Check.faulty(ahead + "abcdefghijk;", 1, ahead.length());
            Check.faulty(ahead + LETTERS + LETTERS + ";", 1, ahead.length());
        }
        for (String ahead : AHEAD_OF_STREET) {
            Check.faulty(ahead + "abcdefghij;", 3, ahead.length());
            Check.faulty(ahead + "abcdefghijk;", 1, ahead.length());
        }
        Check.sound("street abcdefghij;house abcdefghij left 0 1;alias klmnopqrst of abcdefghij;");
        Check.faulty("street abcdefghij;house abcdefghijk left 0 1;", 1, 24);
    }

    private static void ownWords() {
        Check.sentence("Term I", "NAME: no OWN WORD; 1 also an OWN WORD where a NAME is asked");
        for (String word : OWN) {
            for (String ahead : AHEAD_OF_NEW) {
                Check.faulty(ahead + word + ";", 1, ahead.length());
            }
            for (String ahead : AHEAD_OF_STREET) {
                Check.faulty(ahead + word + ";", 1, ahead.length());
            }
            String less = word.substring(0, word.length() - 1);
            Check.sound("street " + less + ";alias " + word + "s of " + less + ";pool s" + word + ";");
        }
    }

    private static void toldNew() {
        Check.sentence("Term I", "all that are told new (STREETS, ALIASES, the POOL) are unlike;"
            + " 3 a NAME that is told already where a new one is asked, at it");
        String[] kinds = {"street q", "alias q of z", "pool q", "pool y q"};
        for (String one : kinds) {
            for (String two : kinds) {
                String text = "street z;" + one + ";" + two.replace('y', 'x') + ";";
                Check.faulty(text, 3, 9 + one.length() + 1 + two.indexOf('q'));
                Check.sound("street z;" + one + ";" + two.replace('y', 'x').replace("q", "qq") + ";");
                Check.sound("street z;" + one + ";" + two.replace('y', 'x').replace('q', 'r') + ";");
            }
        }
        Check.faulty("pool q q;", 3, 7);
        Check.faulty("street abcdefghij;pool abcdefghij;", 3, 23);
        Check.sound("street abcdefghij;pool abcdefghik bbcdefghij abcdefghi;");
        Check.faulty("street a;alias a of a;", 3, 15);
    }

    private static void digits() {
        Check.sentence("Term I", "N: 1 to 4 digits; 1 also a number of 5 digits");
        for (int digit = 0; digit <= 9; digit++) {
            Check.has("last " + digit + ";", 6, digit);
            Check.has("last " + digit + digit + ";", 6, 11 * digit);
        }
        Check.has("last 009;", 6, 9);
        Check.has("last 0099;", 6, 99);
        Check.faulty("last 00099;", 1, 5);
        Check.faulty("last ;", 1, 5);
        Check.faulty("near 00001;", 1, 5);
        Check.faulty("step 00001;", 1, 5);
        Check.faulty("street a;house a left 00001 1;", 1, 22);
        Check.faulty("street a;house a left 1 00001;", 1, 24);
        Check.faulty("last " + "1".repeat(100) + ";", 1, 5);
        Check.due("yards of 4 digits", Check.of("street a;house a left 9876 5;").house(0, 0, 1), 9876);
    }

    private static void blanks() {
        Check.sentence("Term I", "Blanks (10, 32) are where one likes");
        String tight = "near 2;same ab;pair cd e;street oak;house oak left 7 9;alias elm of oak;pool fir bay;";
        String wide = "  \n" + tight.replace(" ", " \n\n ").replace(";", "\n; ") + "\n \n";
        for (String text : new String[] {tight, tight.replace(' ', '\n'), wide}) {
            StreetNames x = Check.of(text);
            int[] due = {1, 2, 1, 1, 0, 2, 10, 10, 1, 1, 0, 0};
            for (int what = 0; what < due.length; what++) {
                Check.due("has(" + what + ") of \"" + text + "\"", x.has(what), due[what]);
            }
        }
        Check.sound(" ");
        Check.sound("\n");
        Check.sound(" ".repeat(2000));
        for (int sign : new int[] {0, 8, 9, 11, 12, 13, 31, 33, 127, 128, 138, 160, 255}) {
            Check.faulty("near" + (char) sign + "1;", 1, 4);
            Check.faulty((char) sign + "near 1;", 1, 0);
            Check.faulty("near 1;" + (char) sign, 1, 7);
        }
        Check.faulty("ne ar 1;", 1, 0);
        Check.faulty("last 1 2;", 1, 7);
    }

    private static void sideBySide() {
        Check.sentence("Term I", "words and numbers side by side need one, else it is FAULT 1 at the second's first byte");
        Check.faulty("near1;", 1, 4);
        Check.faulty("near 1near 1;", 1, 6);
        Check.faulty("street a1;", 1, 8);
        Check.faulty("street a;house a left1 1;", 1, 21);
        Check.faulty("street a;house a left 1x 1;", 1, 23);
        Check.faulty("street a;house a left 1 1x;", 1, 25);
        Check.faulty("mute a1;", 1, 6);
        Check.faulty("pair ab1 c;", 1, 7);
        Check.faulty("pool a b2 c;", 1, 8);
        Check.faulty("street a;alias b2 of a;", 1, 16);
        Check.faulty("street a;alias b of2 a;", 1, 19);
        Check.faulty("streeta;", 1, 0);
        Check.sound("near 1;last 1;mute a;street a;");
    }

    /** Every byte behind a NAME, behind a number and where a STATEMENT begins. */
    private static void everyByte() {
        Check.sentence("Term I", "1 the first byte with which no such text goes on");
        for (int sign = 0; sign < 256; sign++) {
            boolean isLetter = sign >= 'a' && sign <= 'z';
            boolean isDigit = sign >= '0' && sign <= '9';
            boolean isBlank = sign == 10 || sign == 32;
            byteBehindName((char) sign, isLetter || isBlank);
            byteBehindNumber((char) sign, isDigit, isBlank);
            if (isBlank) {
                Check.sound((char) sign + "near 1;");
            } else {
                Check.faulty((char) sign + "near 1;", 1, 0);
            }
        }
    }

    private static void byteBehindName(char sign, boolean goesOn) {
        String text = "street a" + sign + ";";
        if (goesOn) {
            Check.sound(text);
        } else {
            Check.faulty(text, 1, sign == ';' ? 9 : 8);
        }
    }

    private static void byteBehindNumber(char sign, boolean isDigit, boolean isBlank) {
        String text = "near 0" + sign + ";";
        if (isBlank) {
            Check.sound(text);
        } else if (isDigit && sign <= '3') {
            Check.has(text, 5, sign - '0');
        } else if (isDigit) {
            Check.faulty(text, 2, 5);
        } else {
            Check.faulty(text, 1, sign == ';' ? 7 : 6);
        }
    }

    private static void leastPlace() {
        Check.sentence("Term I", "FAULTS: of several the one whose place is least");
        String[] faulty = {"x;", "near 4;", "mute aa;", "street a;street a;"};
        int[] fault = {1, 2, 3, 3};
        int[] place = {0, 5, 5, 16};
        for (int one = 0; one < faulty.length; one++) {
            for (String other : faulty) {
                Check.faulty(faulty[one] + other, fault[one], place[one]);
            }
        }
        String full = "pool a b c d e f g h i j k l";
        Check.faulty(full + " m x1 of;near 4;", 4, 29);
        Check.faulty("near 4x;", 2, 5);
        Check.faulty("near 4", 2, 5);
        Check.faulty("same aa1;", 3, 5);
        Check.faulty("street a;house b left 10000 0;", 3, 15);
        Check.faulty("street a;house a left 10000 0;", 1, 22);
        Check.faulty("street a;house a left 1 1;house a left 1 0;", 3, 39);
        Check.faulty("street a;alias a of b;", 3, 15);
        Check.faulty("pair ab c;pair ab cc;", 3, 15);
    }

    private static void firstOfOnePlace() {
        Check.sentence("Term I", "FAULTS: of one place the one that stands first here");
        Check.faulty("near 99999;", 1, 5);
        Check.faulty("street a;house a left 1 10000;", 1, 24);
        Check.faulty("mute " + "a".repeat(27) + ";", 1, 5);
        Check.faulty("same " + "a".repeat(27) + ";", 1, 5);
        Check.faulty("same ab;same a;", 1, 13);
        Check.faulty("pair ab c;pair abb c;", 1, 15);
        String full = "pool a b c d e f g h i j k l";
        Check.faulty(full + " of;", 1, 29);
        Check.faulty(full + " abcdefghijk;", 1, 29);
        Check.faulty(full + " 1;", 1, 29);
        Check.faulty(full + " a;", 3, 29);
        Check.faulty(full + ";pool l;", 3, 34);
        Check.faulty("street z;" + full + " z;", 3, 38);
        Check.faulty("street z;alias y of z;" + full + " y;", 3, 51);
        Check.faulty("street a;house of left 1 1;", 1, 15);
        Check.faulty("street a;alias b of pool;", 1, 20);
    }

    private static void endsTooSoon() {
        Check.sentence("Term I", "1 at the text's length, if it ends too soon");
        String text = "near 1 ; last 2 ; step 3 ; mute h ; same ck ; pair ph f ; street oak ; house oak left 5 7 ;"
            + " alias elm of oak ; pool fir bay ;";
        StringBuilder told = new StringBuilder();
        for (String sign : text.split(" ")) {
            told.append(told.length() == 0 ? "" : " ").append(sign);
            for (String blanks : new String[] {"", " ", " \n "}) {
                String cut = told + blanks;
                if (sign.equals(";")) {
                    Check.sound(cut);
                } else {
                    Check.faulty(cut, 1, cut.length());
                }
            }
        }
    }

    private static void places() {
        Check.sentence("Term I", "FAULTS: their places, from the first byte to the length of the longest text");
        Check.faulty("x", 1, 0);
        Check.faulty(" ".repeat(1999) + "x", 1, 1999);
        Check.faulty(" ".repeat(1994) + "near 1", 1, 2000);
        Check.faulty(" ".repeat(1994) + "near 4", 2, 1999);
        Check.faulty("near 1" + " ".repeat(1994), 1, 2000);
        Check.has(" ".repeat(1993) + "near 3;", 5, 3);
        Check.has("near 3" + " ".repeat(1993) + ";", 5, 3);
        Check.faulty("x".repeat(2000), 1, 0);
        Check.faulty("last " + "1".repeat(1995), 1, 5);
        Check.faulty("mute " + "a".repeat(1995), 1, 5);
        StringBuilder many = new StringBuilder();
        for (int i = 0; i < 8; i++) {
            many.append("pair a").append(LETTERS.charAt(i)).append(" z;");
        }
        Check.faulty(many + " ".repeat(1920 - 4) + "pair", 4, 1996);
    }
}
