/** Term II on KEYS, CHANGES, ALIKE and LIVE, and promises 7 to 16, at their edges. */
public final class EdgesOfNamesTest {
    private static final int LEAST = Integer.MIN_VALUE;
    private static final int MOST = Integer.MAX_VALUE;
    private static final String ALL = "abcdefghijklmnopqrstuvwxyz";

    public static void main(String[] args) {
        keyPairs();
        keyMute();
        keyGroups();
        keyLikeOnes();
        changes();
        near();
        live();
        letterEdges();
        keyEdges();
        twoNames();
        alias();
        heardKey();
        heardEdges();
        heardAt();
        findOrder();
        findNear();
        findNone();
        fades();
        fadesLate();
        nearest();
        Check.finish("EdgesOfNamesTest");
    }

    private static void key(String rules, String name, String due) {
        StreetNames x = Check.of(rules + "street " + name + ";");
        Check.same("key of " + name + " by \"" + rules + "\"", Check.key(x, 0, 0), due);
    }

    private static void keyPairs() {
        Check.sentence("Term II", "from the left, where the two letters of a pair stand, its one letter comes in"
            + " place of both, else the letter as it is");
        key("", "a", "a");
        key("pair ab c;", "a", "a");
        key("pair ab c;", "b", "b");
        key("pair ab c;", "ab", "c");
        key("pair ab c;", "ba", "ba");
        key("pair ab c;", "aab", "ac");
        key("pair ab c;", "xxxxxxxxab", "xc");
        key("pair ab c;", "abxxxxxxxx", "cx");
        key("pair ab c;", "ababababab", "c");
        key("pair ab c;", "xababababa", "xca");
        key("pair aa b;", "aaa", "ba");
        key("pair aa b;", "aaaa", "b");
        key("pair ab c;pair cd e;", "abd", "cd");
        key("pair ab c;pair bd e;", "abd", "cd");
        key("pair ab c;pair bd e;", "xbd", "xe");
        key("pair aa a;", "aaa", "a");
        for (char behind = 'a'; behind <= 'z'; behind++) {
            // nothing stands behind the tenth letter
            key("pair x" + behind + " w;", "bcdefghijx", "bcdefghijx");
        }
        key("pair ab z;pair ac z;pair ad z;pair ae z;pair af z;pair ag z;pair ah z;pair ai y;", "ai", "y");
    }

    private static void keyMute() {
        Check.sentence("Term II", "of these all mute ones go, but never the first");
        key("mute h;", "h", "h");
        key("mute h;", "ha", "ha");
        key("mute h;", "ah", "a");
        key("mute h;", "aha", "a");
        key("mute h;", "hah", "ha");
        key("mute " + ALL + ";", "abcdefghij", "a");
        key("mute h;pair ab h;", "ab", "h");
        key("mute h;pair ab h;", "xab", "x");
        key("mute ab;pair ab c;", "xab", "xc");
        key("mute z;", "zzzzzzzzzz", "z");
    }

    private static void keyGroups() {
        Check.sentence("Term II", "each letter of a GROUP becomes the first one of the GROUP as it was told");
        key("same ab;", "b", "a");
        key("same ba;", "a", "b");
        key("same za;", "a", "z");
        key("same za;", "z", "z");
        key("same " + ALL + ";", "zyxwvutsrq", "a");
        key("same ab;same cd;same ef;same gh;same ij;same kl;same mn;same po;", "ox", "px");
        key("same ab;mute a;", "xb", "xa");
        key("same ab;mute b;", "xa", "xa");
        key("same ab;pair ac d;", "bc", "ac");
        key("same ab;pair cd b;", "cd", "a");
    }

    private static void keyLikeOnes() {
        Check.sentence("Term II", "of like ones side by side (behind all that) one stays");
        key("", "aa", "a");
        key("", "aaaaaaaaaa", "a");
        key("", "aba", "aba");
        key("", "aabb", "ab");
        key("mute h;", "aha", "a");
        key("same ab;", "ab", "a");
        key("pair bc a;", "abc", "a");
        key("", "abababab", "abababab");
        key("", "abcdefghij", "abcdefghij");
    }

    private static void changes() {
        Check.sentence("Term II", "CHANGES: the fewest letters left out, put in, exchanged one for one");
        String[][] rows = {{"a", "b", "1"}, {"a", "ab", "1"}, {"a", "ba", "1"}, {"ab", "ba", "2"},
            {"a", "abcdefghij", "9"}, {"k", "abcdefghij", "10"}, {"abcdefghij", "klmnopqrst", "10"},
            {"abcdefghij", "bcdefghijk", "2"}, {"abcdefghij", "abcdefghik", "1"}, {"abcdefghij", "jabcdefghi", "2"},
            {"aaaaaaaaaa", "aaaaaaaaa", "1"}, {"abc", "xaybz", "3"}};
        for (String[] row : rows) {
            StreetNames x = Check.of("street " + row[0] + ";pool " + row[1] + ";");
            Check.due(row[0] + " " + row[1], x.changes(0, 0, 1, 0), Integer.parseInt(row[2]));
            Check.due(row[1] + " " + row[0], x.changes(1, 0, 0, 0), Integer.parseInt(row[2]));
            Check.due(row[0] + " itself", x.changes(0, 0, 0, 0), 0);
        }
    }

    private static void near() {
        Check.sentence("Term II", "by letters (2), if CHANGES are near at most; both: 3, neither: 0");
        String[] pool = {"abcdefghix", "abcdefghyx", "abcdefgzyx", "abcdefwzyx"};
        for (int near = 0; near <= 3; near++) {
            StreetNames x = Check.of("near " + near + ";street abcdefghij;pool " + String.join(" ", pool) + ";");
            Check.due("itself by near " + near, x.alike(0, 0, 0, 0), 3);
            for (int k = 0; k < pool.length; k++) {
                Check.due(k + 1 + " CHANGES by near " + near, x.alike(0, 0, 1, k), k + 1 <= near ? 2 : 0);
                Check.due(k + 1 + " CHANGES by near " + near + ", turned", x.alike(1, k, 0, 0), k + 1 <= near ? 2 : 0);
            }
        }
        nearByLength();
        Check.sentence("Term II", "ALIKE by sound (1), if their KEYS are the same");
        StreetNames x = Check.of("near 1;street abab;pool aabbaabb abax abba;");
        Check.due("KEYS alone", x.alike(0, 0, 1, 0), 1);
        Check.due("near alone", x.alike(0, 0, 1, 1), 2);
        Check.due("neither", x.alike(0, 0, 1, 2), 0);
        x = Check.of("near 0;street aab;pool ab;");
        Check.due("KEYS alone by near 0", x.alike(0, 0, 1, 0), 1);
        x = Check.of("near 1;street aab;pool ab;");
        Check.due("both", x.alike(0, 0, 1, 0), 3);
    }

    /** Letters that are left out and put in, at the beginning, in the middle, at the end, and all three. */
    private static void nearByLength() {
        String[][] rows = {{"xbcdef", "xybcdef", "xyzbcdef", "xyzwbcdef"}, {"bcdefx", "bcdefxy", "bcdefxyz", "bcdefxyzw"},
            {"bcxdef", "bcxydef", "bcxyzdef", "bcxyzwdef"}, {"xbcdef", "xbcydef", "xbcydefz", "wxbcydefz"},
            {"cdef", "def", "ef", "f"}, {"bcde", "bcd", "bc", "b"}, {"xcdef", "cdex", "xcdey", "uxcdey"}};
        int[][] apart = {{1, 2, 3, 4}, {1, 2, 3, 4}, {1, 2, 3, 4}, {1, 2, 3, 4}, {1, 2, 3, 4}, {1, 2, 3, 4}, {1, 2, 2, 3}};
        for (int near = 0; near <= 3; near++) {
            for (int row = 0; row < rows.length; row++) {
                StreetNames x = Check.of("near " + near + ";street bcdef;pool " + String.join(" ", rows[row]) + ";");
                for (int k = 0; k < 4; k++) {
                    int due = apart[row][k] <= near ? 2 : 0;
                    Check.due("CHANGES of bcdef and " + rows[row][k], x.changes(0, 0, 1, k), apart[row][k]);
                    Check.due("bcdef and " + rows[row][k] + " by near " + near, x.alike(0, 0, 1, k), due);
                    Check.due(rows[row][k] + " and bcdef by near " + near, x.alike(1, k, 0, 0), due);
                }
            }
        }
    }

    private static void live() {
        Check.sentence("Term II", "LIVE up to and with its last YEAR: of those told that of last");
        for (int last : new int[] {0, 1, 99}) {
            StreetNames x = Check.of("last " + last + ";street oak;alias elm of oak;");
            Check.due("last YEAR", x.alias(0, 1), last);
            if (last > 0) {
                x.years(last);
            }
            Check.due("LIVE in " + last, x.alias(0, 2), 1);
            Check.due("found in " + last, Check.find(x, "elm"), 200);
            x.years(1);
            Check.due("gone behind " + last, x.has(2), 0);
            Check.due("not found behind " + last, Check.find(x, "elm"), -1);
        }
        Check.sentence("Term II", "of those that come by an act that YEAR and last");
        for (int last : new int[] {0, 1, 99}) {
            StreetNames x = Check.of("last " + last + ";street oak;pool elm;");
            x.years(7);
            x.take(0, 0);
            Check.due("last YEAR", x.alias(0, 1), 7 + last);
            if (last > 0) {
                x.years(last);
            }
            Check.due("LIVE in " + (7 + last), x.alias(0, 2), 1);
            x.years(1);
            Check.due("gone behind " + (7 + last), x.has(2), 0);
        }
        Check.sentence("Term II", "those not LIVE go when the YEAR passes them");
        StreetNames x = Check.of("last 5;street oak;alias elm of oak;alias yew of oak;pool fir;");
        x.years(1);
        x.take(0, 0);
        x.years(4);
        Check.due("three in 5", x.has(2), 3);
        x.years(1);
        Check.due("one in 6", x.has(2), 1);
        Check.same("it", Check.name(x, 2, 0), "oak");
        x.undo();
        x.years(99);
        Check.due("none in 104", x.has(2), 0);
        x = Check.of("last 2;same ck;street oak;street elm;street ivy;alias yew of oak;pool bay rock;");
        x.years(1);
        x.take(1, 0);
        x.take(2, 1);
        x.years(2);
        Check.due("those behind one that is gone", x.has(2), 2);
        String[] names = {"elm", "ivy"};
        for (int k = 0; k < 2; k++) {
            Check.same("NAME " + k, Check.name(x, 2, k), names[k]);
            Check.same("KEY " + k, Check.key(x, 2, k), names[k]);
            Check.due("STREET " + k, x.alias(k, 0), k + 1);
            Check.due("last YEAR " + k, x.alias(k, 1), 3);
        }
    }

    /** One STREET of 10 letters and one of 1, two of the POOL, two ALIASES. */
    private static StreetNames six() {
        return Check.of("street abcdefghij;street z;pool aab b;alias xy of z;alias zzz of z;");
    }

    private static void letterEdges() {
        Check.sentence("Promise 7", "Letter i of a NAME: 1 .. 26; 0 behind it (up to 9)");
        StreetNames x = six();
        for (int i = 0; i < 10; i++) {
            Check.due("of ten letters, " + i, x.letter(0, 0, i), i + 1);
            Check.due("of one letter, " + i, x.letter(0, 1, i), i == 0 ? 26 : 0);
        }
        Check.due("of the POOL", x.letter(1, 0, 2), 2);
        Check.due("of the POOL, behind", x.letter(1, 0, 3), 0);
        Check.due("of the last of the POOL", x.letter(1, 1, 0), 2);
        Check.due("of the last ALIAS", x.letter(2, 1, 2), 26);
        Check.due("of the last ALIAS, behind", x.letter(2, 1, 9), 0);
        Check.sentence("Promise 7", "NONE when there is none such");
        for (int i : new int[] {-1, 10, LEAST, MOST}) {
            Twins.tells("letter(0, 0, " + i + ")", EdgesOfNamesTest::six, y -> y.letter(0, 0, i), -1);
        }
        noSuchName((y, kind, k) -> y.letter(kind, k, 0), "letter");
    }

    private static void keyEdges() {
        Check.sentence("Promise 8", "Letter i of its KEY, likewise");
        StreetNames x = six();
        for (int i = 0; i < 10; i++) {
            Check.due("of ten letters, " + i, x.key(0, 0, i), i + 1);
            Check.due("of three like ones, " + i, x.key(2, 1, i), i == 0 ? 26 : 0);
        }
        Check.due("of the POOL", x.key(1, 0, 1), 2);
        Check.due("of the POOL, behind", x.key(1, 0, 2), 0);
        for (int i : new int[] {-1, 10, LEAST, MOST}) {
            Twins.tells("key(0, 0, " + i + ")", EdgesOfNamesTest::six, y -> y.key(0, 0, i), -1);
        }
        noSuchName((y, kind, k) -> y.key(kind, k, 0), "key");
    }

    private interface OfName {
        long ask(StreetNames x, int kind, int k);
    }

    /** A question of a NAME answers NONE, if there is no such kind, or no such NAME of it. */
    private static void noSuchName(OfName asked, String call) {
        for (int kind : new int[] {-1, 3, LEAST, MOST}) {
            Twins.tells(call + " of kind " + kind, EdgesOfNamesTest::six, x -> asked.ask(x, kind, 0), -1);
        }
        for (int kind = 0; kind < 3; kind++) {
            int of = kind;
            for (int k : new int[] {-1, 2, LEAST, MOST}) {
                Twins.tells(call + " of " + kind + ", " + k, EdgesOfNamesTest::six, x -> asked.ask(x, of, k), -1);
            }
            Check.due(call + " of the last of " + kind, asked.ask(six(), kind, 1) == -1, false);
            Check.due(call + " of " + kind + " with nothing told", asked.ask(new StreetNames(), kind, 0), -1);
        }
    }

    private static void twoNames() {
        Check.sentence("Promise 9", "CHANGES of two NAMES. NONE when there are none such");
        noSuchName((x, kind, k) -> x.changes(kind, k, 0, 0), "changes, the first,");
        noSuchName((x, kind, k) -> x.changes(0, 0, kind, k), "changes, the second,");
        for (int kind = 0; kind < 3; kind++) {
            for (int other = 0; other < 3; other++) {
                int due = kind == other ? 0 : 1;
                StreetNames x = Check.of("street a;pool b;alias c of a;");
                Check.due("changes of " + kind + " and " + other, x.changes(kind, 0, other, 0), due);
            }
        }
        Check.sentence("Promise 10", "two NAMES (they may be one) are ALIKE: 0 .. 3. NONE when there are none such");
        noSuchName((x, kind, k) -> x.alike(kind, k, 0, 0), "alike, the first,");
        noSuchName((x, kind, k) -> x.alike(0, 0, kind, k), "alike, the second,");
        for (int kind = 0; kind < 3; kind++) {
            for (int other = 0; other < 3; other++) {
                StreetNames x = Check.of("near 0;same ab;street a;pool b;alias c of a;");
                int due = kind == other ? 3 : kind + other == 1 ? 1 : 0;
                Check.due("alike of " + kind + " and " + other, x.alike(kind, 0, other, 0), due);
            }
        }
    }

    private static void alias() {
        Check.sentence("Promise 11", "Of an ALIAS: 0 the STREET, 1 its last YEAR, 2 1 if it is LIVE");
        StreetNames x = Check.of("last 0;street a;street b;street c;street d;street e;street f;street g;street h;"
            + "street i;street j;alias xa of j;alias xb of a;");
        int[][] due = {{9, 0, 1}, {0, 0, 1}};
        for (int k = 0; k < 2; k++) {
            for (int what = 0; what < 3; what++) {
                Check.due("alias(" + k + ", " + what + ")", x.alias(k, what), due[k][what]);
            }
        }
        Check.sentence("Promise 11", "NONE when there is none such, or for others");
        for (int k : new int[] {-1, 2, LEAST, MOST}) {
            for (int what = 0; what < 3; what++) {
                int of = what;
                Twins.tells("alias(" + k + ", " + what + ")", EdgesOfNamesTest::six, y -> y.alias(k, of), -1);
            }
        }
        for (int what : new int[] {-1, 3, LEAST, MOST}) {
            Twins.tells("alias(0, " + what + ")", EdgesOfNamesTest::six, y -> y.alias(0, what), -1);
        }
        Check.due("with nothing told", new StreetNames().alias(0, 0), -1);
        x.years(1);
        Check.due("gone", x.alias(0, 0), -1);
    }

    private static void heardKey() {
        Check.sentence("Promise 12", "The tape is a word: how many letters its KEY has");
        StreetNames x = Check.of("mute h;same zs;same ck;pair ph f;street oak;");
        String[][] rows = {{"s", "z"}, {"k", "c"}, {"phs", "fz"}, {"hhh", "h"}, {"ckzsck", "czc"}, {"ph", "f"},
            {"rosehosek", "rozeozec"}};
        for (String[] row : rows) {
            Check.due("heard of " + row[0], Check.heard(x, row[0]), row[1].length());
            for (int i = 0; i < row[1].length(); i++) {
                Check.due("heardAt(" + i + ") of " + row[0], x.heardAt(i), row[1].charAt(i) - 'a' + 1);
            }
        }
        x = Check.of("near 0;same zs;same ck;street rosek;");
        Check.due("find by the KEY", Check.find(x, "rozzec"), 300);
        x.keep(0);
        Check.town(x, "near 0;same zk;street rosek;");
        Check.due("find by another KEY", Check.find(x, "rozzec"), -1);
        Check.due("find by that KEY", Check.find(x, "rosez"), 300);
        x.back(0);
        Check.due("find by the KEY that is back", Check.find(x, "rozzec"), 300);
    }

    private static void heardEdges() {
        Check.sentence("Promise 12", "NONE when it is none that could be a NAME (1 to 10 bytes a .. z, no OWN WORD)");
        StreetNames x = new StreetNames();
        for (int sign = 0; sign < 256; sign++) {
            boolean isLetter = sign >= 'a' && sign <= 'z';
            StreetNames y = new StreetNames();
            Check.due("the byte " + sign, Check.heard(y, String.valueOf((char) sign)), isLetter ? 1 : -1);
            Check.due("it behind a letter", Check.heard(y, "a" + (char) sign) > 0, isLetter);
            Check.due("it ahead of one", Check.heard(y, (char) sign + "a") > 0, isLetter);
        }
        Check.due("0 bytes", Check.heard(x, ""), -1);
        Check.due("10 bytes", Check.heard(x, "abcdefghij"), 10);
        Check.due("11 bytes", Check.heard(x, "abcdefghijk"), -1);
        Check.due("2000 bytes", Check.heard(x, "a".repeat(2000)), -1);
        for (String word : "near last step mute same pair street house left right alias of pool".split(" ")) {
            Check.due(word, Check.heard(x, word), -1);
            Check.due(word + "s", Check.heard(x, word + "s") > 0, true);
            Check.due(word + " cut", Check.heard(x, word.substring(1)) > 0, true);
        }
        Check.due("a blank behind", Check.heard(x, "oak "), -1);
        Check.sentence("Promise 12", "The tape (it goes) is a word");
        for (String word : new String[] {"oak", "of", "o k", ""}) {
            StreetNames with = Twins.lived();
            StreetNames without = Twins.lived();
            with.end(0);
            Check.heard(with, word);
            Check.heard(with, "yew");
            without.heard();
            Twins.same("heard of \"" + word + "\"", with, without, -1);
            with = new StreetNames();
            Check.heard(with, word);
            Check.due("no byte is left of \"" + word + "\"", with.end(1), false);
        }
    }

    private static void heardAt() {
        Check.sentence("Promise 13", "Letter i of the KEY of the latest heard() that was not NONE (1 .. 26);"
            + " NONE when there is none such");
        StreetNames x = new StreetNames();
        for (int i : new int[] {-1, 0, 1, 9, 10, LEAST, MOST}) {
            Check.due("nothing heard: " + i, x.heardAt(i), -1);
        }
        Check.heard(x, "a");
        Check.due("one letter: 0", x.heardAt(0), 1);
        Check.due("one letter: 1", x.heardAt(1), -1);
        Check.heard(x, "zyxwvutsrq");
        for (int i = 0; i < 10; i++) {
            Check.due("ten letters: " + i, x.heardAt(i), 26 - i);
        }
        for (int i : new int[] {-1, 10, 11, LEAST, MOST}) {
            Check.due("ten letters: " + i, x.heardAt(i), -1);
        }
        Check.heard(x, "of");
        Check.heard(x, "");
        Check.due("the latest that was not NONE", x.heardAt(9), 17);
        Check.heard(x, "mmm");
        Check.due("a shorter one", x.heardAt(0), 13);
        Check.due("a shorter one, behind it", x.heardAt(1), -1);
        Check.find(x, "abc");
        Check.fades(x, "abc");
        Check.due("find() and fades() leave it", x.heardAt(0), 13);
        Check.town(x, "same nm;");
        Check.due("town() leaves it", x.heardAt(0), 13);
        Check.due("nothing was refused", x.status(0) + x.status(1), 0);
        Twins.tells("heardAt(-1)", Twins::lived, y -> y.heardAt(-1), -1);
        Twins.tells("heardAt(0)", Twins::lived, y -> y.heardAt(0), 6);
    }

    private static void findOrder() {
        Check.sentence("Promise 14", "100 and the STREET that has just that NAME; else 200 and the STREET of the first"
            + " LIVE ALIAS that is just so; else 300 and the first STREET whose NAME has that KEY; else 400");
        StreetNames x = Check.of("near 1;last 0;street aab;street ab;street xyz;alias abb of xyz;alias b of ab;"
            + "alias aaab of ab;pool oak;");
        Check.due("a NAME ahead of a KEY", Check.find(x, "ab"), 101);
        Check.due("a NAME", Check.find(x, "aab"), 100);
        Check.due("an ALIAS ahead of a KEY", Check.find(x, "abb"), 202);
        Check.due("an ALIAS ahead of CHANGES", Check.find(x, "b"), 201);
        Check.due("a KEY, the first of two, though the second is as near", Check.find(x, "aabb"), 300);
        Check.due("a KEY that is not near", Check.find(x, "xxyyzz"), 302);
        Check.due("CHANGES alone", Check.find(x, "xy"), 402);
        Check.due("of the POOL", Check.find(x, "oak"), -1);
        x.years(1);
        Check.due("the ALIAS is gone, the KEY stays", Check.find(x, "abb"), 300);
        Check.due("the ALIAS is gone, CHANGES stay", Check.find(x, "b"), 401);
        x = Check.of("street a;street b;street c;street d;street e;street f;street g;street h;street i;street jjj;"
            + "alias xxxxx of jjj;");
        Check.due("the last STREET by its NAME", Check.find(x, "jjj"), 109);
        Check.due("the last STREET by its ALIAS", Check.find(x, "xxxxx"), 209);
        Check.due("the last STREET by its KEY", Check.find(x, "jjjjj"), 309);
        Check.due("the last STREET by CHANGES", Check.find(x, "jjx"), 409);
    }

    private static void findNear() {
        Check.sentence("Promise 14", "400 and the STREET by the fewest CHANGES, near at most, the first of like ones");
        String[] words = {"abcdefghix", "abcdefghyx", "abcdefgzyx", "abcdefwzyx"};
        for (int near = 0; near <= 3; near++) {
            StreetNames x = Check.of("near " + near + ";street abcdefghij;");
            for (int i = 0; i < words.length; i++) {
                int due = i + 1 <= near ? 400 : -1;
                Check.due(i + 1 + " CHANGES by near " + near, Check.find(x, words[i]), due);
            }
        }
        StreetNames x = Check.of("near 2;street kmnp;street abcd;street abef;");
        Check.due("like ones", Check.find(x, "abxx"), 401);
        Check.due("the second is nearer", Check.find(x, "abex"), 402);
    }

    private static void findNone() {
        Check.sentence("Promise 14", "NONE: nobody, or it is none that could be a NAME; the tape goes");
        String[] none = {"", "of", "pool", "abcdefghijk", "o k", "oak ", " oak", "Oak", "oak;", "oak1", "xyzuvw"};
        for (String word : none) {
            StreetNames with = Twins.lived();
            StreetNames without = Twins.lived();
            with.end(0);
            without.end(0);
            Check.due("find of \"" + word + "\"", Check.find(with, word), -1);
            Twins.same("find of \"" + word + "\"", with, without, -1);
            with = new StreetNames();
            Check.due("with no STREETS", Check.find(with, word), -1);
            Check.due("no byte is left", with.end(1), false);
        }
        StreetNames x = Check.of("near 3;street ofx;");
        Check.due("an OWN WORD that is near", Check.find(x, "of"), -1);
        Check.due("one that is none", Check.find(x, "ofy"), 400);
    }

    private static void fades() {
        Check.sentence("Promise 15", "the first YEAR from now on in which find() of it would be NONE");
        StreetNames x = Check.of("near 1;last 3;street oak;street elm;alias yew of oak;alias elms of oak;alias oaak of elm;");
        Check.due("nobody's: now", Check.fades(x, "xyz"), 0);
        Check.due("an ALIAS: behind its last YEAR", Check.fades(x, "yew"), 4);
        x.years(3);
        Check.due("an ALIAS in its last YEAR", Check.fades(x, "yew"), 4);
        x.years(1);
        Check.due("an ALIAS that is gone: now", Check.fades(x, "yew"), 4);
        x.years(1);
        Check.due("long gone: now", Check.fades(x, "yew"), 5);
        x = Check.of("last 0;street oak;alias yew of oak;");
        Check.due("last 0", Check.fades(x, "yew"), 1);
        Check.sentence("Promise 15", "NONE: never, or it is none that could be a NAME; the tape goes");
        String[] none = {"mill", "mil", "milll", "of", "", "abcdefghijk", "a b", "y;"};
        for (String word : none) {
            StreetNames with = Twins.lived();
            StreetNames without = Twins.lived();
            with.end(0);
            without.end(0);
            Check.due("fades of \"" + word + "\"", Check.fades(with, word), -1);
            Twins.same("fades of \"" + word + "\"", with, without, -1);
            with = new StreetNames();
            Check.fades(with, word);
            Check.due("no byte is left", with.end(1), false);
        }
        x = Check.of("near 1;last 3;street oak;street elm;alias elms of oak;alias oaak of elm;");
        Check.due("an ALIAS that is near a NAME", Check.fades(x, "elms"), -1);
        Check.due("an ALIAS that has a NAME's KEY", Check.fades(x, "oaak"), -1);
    }

    /** An object in a YEAR, where the STREET oak took elm. */
    private static StreetNames takenIn(int year, int last) {
        StreetNames x = Check.of("near 0;last " + last + ";street oak;pool elm;");
        for (int left = year; left > 0; left -= Math.min(left, 99)) {
            x.years(Math.min(left, 99));
        }
        Check.due("the YEAR", x.has(4), year);
        x.take(0, 0);
        return x;
    }

    private static void fadesLate() {
        Check.sentence("Promise 15", "the first YEAR from now on (999 at most)");
        Check.due("last YEAR 998", Check.fades(takenIn(988, 10), "oak"), 999);
        Check.due("last YEAR 999", Check.fades(takenIn(989, 10), "oak"), -1);
        Check.due("last YEAR 1000", Check.fades(takenIn(990, 10), "oak"), -1);
        Check.due("last YEAR 1098", Check.fades(takenIn(999, 99), "oak"), -1);
        Check.due("last YEAR 999, last 0", Check.fades(takenIn(999, 0), "oak"), -1);
        Check.due("nobody's in 999", Check.fades(takenIn(999, 0), "xyz"), 999);
    }

    private static void nearest() {
        Check.sentence("Promise 16", "The STREET whose NAME has the fewest CHANGES to a NAME (a STREET's: another one),"
            + " of like ones the first (what 0), how many these are (1)");
        StreetNames x = Check.of("street abc;street abd;street abe;pool abcx abf klmnopqrst;alias abg of abc;");
        int[][] due = {{0, 0, 1, 1}, {0, 1, 0, 1}, {0, 2, 0, 1}, {1, 0, 0, 1}, {1, 1, 0, 1}, {1, 2, 0, 10}, {2, 0, 0, 1}};
        for (int[] row : due) {
            Check.due("nearest(" + row[0] + ", " + row[1] + ", 0)", x.nearest(row[0], row[1], 0), row[2]);
            Check.due("nearest(" + row[0] + ", " + row[1] + ", 1)", x.nearest(row[0], row[1], 1), row[3]);
        }
        Check.sentence("Promise 16", "NONE when there is none such, or for others");
        StreetNames one = Check.of("street abc;pool abd;");
        for (int what = 0; what < 2; what++) {
            int of = what;
            noSuchName((y, kind, k) -> y.nearest(kind, k, of), "nearest, " + what + ",");
            Check.due("no other STREET", one.nearest(0, 0, what), -1);
            Check.due("no STREET", Check.of("pool abd;").nearest(1, 0, what), -1);
        }
        Check.due("the only STREET", one.nearest(1, 0, 0), 0);
        for (int what : new int[] {-1, 2, LEAST, MOST}) {
            Twins.tells("nearest(0, 0, " + what + ")", EdgesOfNamesTest::six, y -> y.nearest(0, 0, what), -1);
        }
    }
}
