/** Promises 7 to 16: letters, KEYS, CHANGES, who is meant by a word. */
public final class NamesTest {
    public static void main(String[] args) {
        letters();
        keys();
        keyRules();
        changes();
        alike();
        alias();
        heard();
        find();
        fades();
        nearest();
        Check.finish("NamesTest");
    }

    private static void letters() {
        StreetNames x = Check.of("street abz;pool abcdefghij;alias q of abz;");
        Check.due("letter(0,0,0)", x.letter(0, 0, 0), 1);
        Check.due("letter(0,0,2)", x.letter(0, 0, 2), 26);
        Check.due("letter(0,0,3)", x.letter(0, 0, 3), 0);
        Check.due("letter(0,0,9)", x.letter(0, 0, 9), 0);
        Check.due("letter(0,0,10)", x.letter(0, 0, 10), -1);
        Check.due("letter(0,0,-1)", x.letter(0, 0, -1), -1);
        Check.due("letter(0,1,0)", x.letter(0, 1, 0), -1);
        Check.due("letter(0,-1,0)", x.letter(0, -1, 0), -1);
        Check.due("letter(1,0,9)", x.letter(1, 0, 9), 10);
        Check.due("letter(2,0,0)", x.letter(2, 0, 0), 17);
        Check.due("letter(3,0,0)", x.letter(3, 0, 0), -1);
        Check.due("letter(-1,0,0)", x.letter(-1, 0, 0), -1);
    }

    private static void keys() {
        StreetNames x = Check.of("mute h;same ck;pair ph f;street phack;pool hhh;alias kchc of phack;");
        Check.same("key of phack", Check.key(x, 0, 0), "fac");
        Check.same("key of hhh", Check.key(x, 1, 0), "h");
        Check.same("key of kchc", Check.key(x, 2, 0), "c");
        Check.due("key(0,0,3)", x.key(0, 0, 3), 0);
        Check.due("key(0,0,9)", x.key(0, 0, 9), 0);
        Check.due("key(0,0,10)", x.key(0, 0, 10), -1);
        Check.due("key(0,0,-1)", x.key(0, 0, -1), -1);
        Check.due("key(0,1,0)", x.key(0, 1, 0), -1);
        Check.due("key(3,0,0)", x.key(3, 0, 0), -1);
    }

    private static void key(String rules, String name, String due) {
        StreetNames x = Check.of(rules + "street " + name + ";");
        Check.same("key of " + name + " by " + rules, Check.key(x, 0, 0), due);
    }

    private static void keyRules() {
        key("", "abba", "aba");
        key("", "aabbccddee", "abcde");
        key("pair ss z;", "sss", "zs");
        key("pair ss s;", "ssss", "s");
        key("pair ab c;pair bc d;", "abc", "c");
        key("pair bc d;pair ab c;", "xbcab", "xdc");
        key("pair ab b;pair bc d;", "abc", "bc");
        key("pair ab h;mute h;", "abab", "h");
        key("pair ab h;mute h;", "xab", "x");
        key("mute ab;", "abab", "a");
        key("mute ab;", "xabx", "x");
        key("mute a;same ab;", "bab", "a");
        key("mute b;same ab;", "aab", "a");
        key("same ba;mute b;", "xa", "xb");
        key("same zyx;", "xyza", "za");
        key("pair ab x;same zx;", "abzab", "z");
        key("pair ab c;", "ba", "ba");
        key("", "abcdefghij", "abcdefghij");
    }

    private static void changes() {
        StreetNames x = Check.of("near 3;street kitten;street a;pool sitting abcdefghij jihgfedcba;alias bcdefghija of a;");
        Check.due("kitten sitting", x.changes(0, 0, 1, 0), 3);
        Check.due("sitting kitten", x.changes(1, 0, 0, 0), 3);
        Check.due("itself", x.changes(0, 0, 0, 0), 0);
        Check.due("a abcdefghij", x.changes(0, 1, 1, 1), 9);
        Check.due("a kitten", x.changes(0, 1, 0, 0), 6);
        Check.due("turned", x.changes(1, 1, 1, 2), 10);
        Check.due("shifted", x.changes(1, 1, 2, 0), 2);
        Check.due("no such", x.changes(0, 2, 0, 0), -1);
        Check.due("no such other", x.changes(0, 0, 1, 3), -1);
        Check.due("no such kind", x.changes(3, 0, 0, 0), -1);
        Check.due("no such other kind", x.changes(0, 0, -1, 0), -1);
        Check.due("below", x.changes(0, 0, 0, -1), -1);
    }

    private static void alike() {
        StreetNames x = Check.of("near 1;same sz;street rose;street roze;street rosa;street rrooossee;street oak;alias ros of oak;");
        Check.due("sound and letters", x.alike(0, 0, 0, 1), 3);
        Check.due("letters", x.alike(0, 0, 0, 2), 2);
        Check.due("sound", x.alike(0, 0, 0, 3), 1);
        Check.due("neither", x.alike(0, 0, 0, 4), 0);
        Check.due("itself", x.alike(0, 4, 0, 4), 3);
        Check.due("a letter left out", x.alike(0, 0, 2, 0), 2);
        Check.due("a letter put in", x.alike(2, 0, 0, 0), 2);
        Check.due("two changes", x.alike(0, 1, 0, 2), 0);
        Check.due("no such", x.alike(0, 5, 0, 0), -1);
        Check.due("no such other", x.alike(0, 0, 1, 0), -1);
        Check.due("no such kind", x.alike(0, 0, 3, 0), -1);
        x = Check.of("near 0;street rose;street rosa;");
        Check.due("near 0", x.alike(0, 0, 0, 1), 0);
        Check.due("near 0, itself", x.alike(0, 0, 0, 0), 3);
        x = Check.of("near 3;street abc;street xyz;street a;street abcde;");
        Check.due("near 3", x.alike(0, 0, 0, 1), 2);
        Check.due("near 3, lengths apart", x.alike(0, 2, 0, 3), 0);
    }

    private static void alias() {
        StreetNames x = Check.of("last 3;street oak;street elm;alias yew of elm;alias fir of oak;pool bay;");
        Check.due("alias(0,0)", x.alias(0, 0), 1);
        Check.due("alias(1,0)", x.alias(1, 0), 0);
        Check.due("alias(0,1)", x.alias(0, 1), 3);
        Check.due("alias(0,2)", x.alias(0, 2), 1);
        Check.due("alias(0,3)", x.alias(0, 3), -1);
        Check.due("alias(0,-1)", x.alias(0, -1), -1);
        Check.due("alias(2,0)", x.alias(2, 0), -1);
        Check.due("alias(-1,0)", x.alias(-1, 0), -1);
        x.years(3);
        Check.due("live in its last year", x.alias(0, 2), 1);
        x.take(0, 0);
        Check.due("last year of an act", x.alias(2, 1), 6);
        x.years(1);
        Check.due("those told are gone", x.has(2), 1);
        Check.same("oak is left", Check.name(x, 2, 0), "oak");
        Check.due("last year", x.alias(0, 1), 6);
    }

    private static void heard() {
        StreetNames x = Check.of("mute h;pair ph f;street oak;");
        Check.due("none heard yet", x.heardAt(0), -1);
        Check.due("phone", Check.heard(x, "phone"), 4);
        Check.due("heardAt(0)", x.heardAt(0), 6);
        Check.due("heardAt(3)", x.heardAt(3), 5);
        Check.due("heardAt(4)", x.heardAt(4), -1);
        Check.due("heardAt(-1)", x.heardAt(-1), -1);
        Check.due("the tape is gone", x.end(1), false);
        String[] none = {"", "street", "of", "abcdefghijk", "a b", " a", "a ", "A", "a1", "pool", "a;"};
        for (String word : none) {
            Check.due("heard \"" + word + "\"", Check.heard(x, word), -1);
            Check.due("heardAt stays", x.heardAt(0), 6);
            Check.due("gone", x.end(1), false);
        }
        Check.due("not refused", x.status(0), 1 + none.length);
        Check.due("ofs", Check.heard(x, "ofs"), 3);
        Check.due("ten letters", Check.heard(x, "abcdefgxij"), 10);
        Check.due("heardAt(9)", x.heardAt(9), 10);
        Check.due("of", Check.heard(x, "oof"), 2);
        Check.town(x, "same of;street elm;");
        Check.due("what was heard stays", x.heardAt(1), 6);
        Check.due("by the new rules", Check.heard(x, "oof"), 1);
    }

    private static void find() {
        StreetNames x = Check.of("near 2;same sz;last 2;street rose;street mill;street milk;street hazz;"
            + "alias hill of rose;alias mills of rose;pool bay;");
        Check.due("just that", Check.find(x, "milk"), 102);
        Check.due("alias", Check.find(x, "mills"), 200);
        Check.due("key", Check.find(x, "hass"), 303);
        Check.due("key of the first", Check.find(x, "roze"), 300);
        Check.due("near", Check.find(x, "mild"), 401);
        Check.due("nearer", Check.find(x, "milkab"), 402);
        Check.due("the fewest", Check.find(x, "rosxx"), 400);
        Check.due("nobody", Check.find(x, "xxxxx"), -1);
        Check.due("no word", Check.find(x, "a b"), -1);
        Check.due("own word", Check.find(x, "mute"), -1);
        Check.due("nothing", Check.find(x, ""), -1);
        Check.due("the tape is gone", x.end(1), false);
        x.years(3);
        Check.due("the alias is gone", Check.find(x, "mills"), 401);
        Check.due("taken", x.take(1, 0), 1);
        Check.due("old name of the street", Check.find(x, "mill"), 201);
        Check.due("new name", Check.find(x, "bay"), 101);
        x = Check.of("near 0;street oak;");
        Check.due("near 0", Check.find(x, "oat"), -1);
        Check.due("just that, near 0", Check.find(x, "oak"), 100);
    }

    private static void fades() {
        StreetNames x = Check.of("near 1;last 5;street oak;street elm;alias willow of oak;alias elms of oak;pool bay;");
        Check.due("alias", Check.fades(x, "willow"), 6);
        Check.due("near a street's", Check.fades(x, "elms"), -1);
        Check.due("a street's", Check.fades(x, "oak"), -1);
        Check.due("by key", Check.fades(x, "ooaakk"), -1);
        Check.due("nobody's", Check.fades(x, "xyz"), 0);
        Check.due("no word", Check.fades(x, "of"), -1);
        Check.due("nothing", Check.fades(x, ""), -1);
        Check.due("the tape is gone", x.end(1), false);
        x.years(4);
        Check.due("the same year", Check.fades(x, "willow"), 6);
        Check.due("nobody's, now", Check.fades(x, "xyz"), 4);
        x.years(2);
        Check.due("gone", Check.fades(x, "willow"), 6);
        x.years(1);
        Check.due("long gone", Check.fades(x, "willow"), 7);

        x = Check.of("near 0;last 10;street oak;pool bay;");
        for (int i = 0; i < 10; i++) {
            x.years(98);
        }
        x.years(8);
        Check.due("the year", x.has(4), 988);
        x.take(0, 0);
        Check.due("in 999", Check.fades(x, "oak"), 999);
        x.undo();
        x.years(1);
        x.take(0, 0);
        Check.due("never, as years end", Check.fades(x, "oak"), -1);
    }

    /** What 1 tells how many CHANGES the fewest are, not how many STREETS are as near. */
    private static void nearest() {
        StreetNames x = Check.of("street mill;street milk;street hill;street oak;alias oats of mill;pool bill maple;");
        Check.due("of street 0", x.nearest(0, 0, 0), 1);
        Check.due("of street 0, changes, two streets so near", x.nearest(0, 0, 1), 1);
        Check.due("of street 1", x.nearest(0, 1, 0), 0);
        Check.due("of street 1, changes", x.nearest(0, 1, 1), 1);
        Check.due("of street 3", x.nearest(0, 3, 0), 1);
        Check.due("of street 3, changes", x.nearest(0, 3, 1), 3);
        Check.due("of the pool", x.nearest(1, 0, 0), 0);
        Check.due("of the pool, changes, two streets so near", x.nearest(1, 0, 1), 1);
        Check.due("of the pool, several so near", x.nearest(1, 1, 0), 0);
        Check.due("of the pool, several so near, changes", x.nearest(1, 1, 1), 3);
        Check.due("of an alias", x.nearest(2, 0, 0), 3);
        Check.due("of an alias, changes", x.nearest(2, 0, 1), 2);
        Check.due("for others", x.nearest(0, 0, 2), -1);
        Check.due("for others", x.nearest(0, 0, -1), -1);
        Check.due("none such", x.nearest(0, 4, 0), -1);
        Check.due("none such, changes", x.nearest(1, 2, 1), -1);
        Check.due("none such, below", x.nearest(2, -1, 1), -1);
        Check.due("no kind", x.nearest(3, 0, 0), -1);
        Check.due("no kind, changes", x.nearest(-1, 0, 1), -1);
        nearestAtEdges();
    }

    private static void nearestAtEdges() {
        StreetNames x = Check.of("street oak;pool elm;");
        Check.due("no other street", x.nearest(0, 0, 0), -1);
        Check.due("no other street, changes", x.nearest(0, 0, 1), -1);
        Check.due("the only one", x.nearest(1, 0, 0), 0);
        Check.due("the only one, changes", x.nearest(1, 0, 1), 3);
        x.take(0, 0);
        Check.due("a name of the pool that a street has", x.nearest(1, 0, 0), 0);
        Check.due("a name of the pool that a street has, changes", x.nearest(1, 0, 1), 0);
        x = Check.of("street abcdefghij;street zz;pool klmnopqrst;");
        Check.due("all letters are others", x.nearest(1, 0, 0), 0);
        Check.due("all letters are others, changes", x.nearest(1, 0, 1), 10);
        x = Check.of("pool elm;");
        Check.due("no streets", x.nearest(1, 0, 0), -1);
        Check.due("no streets, changes", x.nearest(1, 0, 1), -1);
    }
}
